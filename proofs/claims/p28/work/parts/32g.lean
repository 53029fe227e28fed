/-! SIDE BY SIDE: commit -/
theorem on_no : ∀ i : Nat, i < 256 → ¬ bcF (nI i) = 1 → onF (nI i) 8 = -1 := by decide +kernel
theorem on_one : ∀ j : Nat, j < 8 → onF ((1 : Int32) <<< (nI j &&& 31)) 8 = nI j := by decide +kernel
section JC
variable {am g : Nat → Nat} {σ τ : Mem} {nF : Nat} {n : Int64} {v : Value}
/-- what a commit says of a field, out of the settled row -/
def cvF (nF : Nat) (m : Mw) (f : Nat) : Int32 := if f < nF then onF (m f) 8 else -1
theorem oi_row {m : Mw} (h : RR σ g τ nF) (hs : SetR (tm (g 0) τ) (stF (tm (g 0) τ) (g 0) 0 0) nF (g 0) nF 0 (aM (tm (g 0) τ) nF (g 0)) m) (f : Nat) (hf : f < 5) : σ 22 f = cvF nF m f := by
  unfold cvF
  by_cases q : f < nF
  · rw [if_pos q]
    obtain ⟨o1, o2, o3, o4⟩ := h.oi
    obtain ⟨k1, k2, k3, k4, k5⟩ := o4 (by omega)
    have hL := h.ci.lv
    have e := ag_set h.ag hL _ _ _ _ k4
    rw [ag_st h.ag hL (g 0) 0 0 (Nat.zero_add _), (ag_a h.ag hL).1] at e
    rw [k5 f q, SetR.det _ _ _ _ _ e hs]
  · rw [if_neg q]
    exact h.oi.2.2.1 f (by omega) hf
theorem x_commit {post : GP} (hk : gk g) (h : RR σ g τ nF) (x1 : ¬ (σ 12 2 = 0 ∧ g 2 < 12) → ∀ ρ : Mem, WE τ ρ → post 0 am g (mst ρ 0 0 1))
    (hp : σ 12 2 = 0 → g 2 < 12 → ∀ (ad1 g1 : Nat → Nat) (ρ : Mem) (wr : Nat → Int32), ad1 0 = am 0 → gk g1 → g1 0 = g 0 → g1 2 = g 2 + 1 → WE τ ρ → ρ 0 0 = 0 → (∀ f : Nat, f < 5 → wr f = σ 22 f) → post (nI (g 2)) ad1 g1 (mup (mst ρ 4 0 (ρ 4 0 + 1)) (200 + g 2) wr)) : q_X8_commit am g post τ := by
  have h12 : g 2 ≤ 12 := hk.1.2.2.2.1
  have w1 : WE τ (mst τ 0 0 0) := mst0_we (by omega)
  have z0 : mst τ 0 0 0 0 0 = 0 := by rw [mst_eq, upd_eq]
  unfold q_X8_commit q_X8_commit_24
  rintro _ rfl
  generalize mst τ 0 0 0 = τ1 at w1 z0
  have h1 := h.w w1
  have hL := h1.lv
  have h5 := hL.1
  have ec : aC (tm (g 0) τ1) nF (g 0) = σ 12 2 := by rw [h.oi.2.1, (ag_a h1.ag h1.ci.lv).2]
  refine s_isContradiction hL ?_
  rw [ec]
  have w2 : WE τ1 (put 0 (aM (tm (g 0) τ1) nF (g 0)) τ1) := put_we
  have z2 : put 0 (aM (tm (g 0) τ1) nF (g 0)) τ1 0 0 = 0 := by rw [put_ne (by decide)]; exact z0
  generalize put 0 (aM (tm (g 0) τ1) nF (g 0)) τ1 = τ2 at w2 z2
  have h2 := h1.w w2
  refine ⟨fun q => x_refuse (x1 (fun w => q w.1) _ (w1.trans w2)), fun q => ⟨fun q2 q6 => x_settle h2.lv (fun ρ hs hr hset => ?_), fun q2 => x_refuse (x1 (fun w => absurd (nI_inj (by omega) (by decide) q2) (Nat.ne_of_lt w.2)) _ (w1.trans w2))⟩⟩
  have hlt : g 2 < 12 := by
    rcases Nat.lt_or_ge (g 2) 12 with w | w
    · exact w
    · exact absurd (by rw [show g 2 = 12 by omega]; rfl) q2
  have w3 : WE τ ρ := (w1.trans w2).trans hs.we
  have z3 : ρ 0 0 = 0 := by rw [hs 0 (by decide)]; exact z2
  have h3 := h2.w hs.we
  have ecv : ∀ f : Nat, f < 5 → σ 22 f = cvF nF (row 0 ρ) f := fun f hf => oi_row h2 hset f hf
  generalize hm : row 0 ρ = m at hr ecv
  have key : ∀ (d f : Nat) (wr : Nat → Int32), f + d = 5 → (∀ f2 : Nat, f2 < f → wr f2 = cvF nF m f2) → lp_4 (q_X8_commit_40 am g post (q_X8_commit_82 am g post)) (d + 1) (nI f) q6 wr ρ := by
    intro d
    induction d with
    | zero =>
      intro f wr hf hw
      show q_X8_commit_40 _ _ _ _ _ _ _ _ _
      unfold q_X8_commit_40 q_X8_commit_82
      rw [show f = 5 by omega] at hw ⊢
      refine ⟨fun _ => ⟨hlt, ?_⟩, fun z => absurd (by decide) z⟩
      rintro ad1 g1 _ e1 gk1 e2 e3 rfl
      have er : nI (g1 2) - 1 = nI (g 2) := by
        rw [e2, ← nI_1]
        exact Int32.add_sub_cancel _ _
      rw [er]
      exact hp q hlt ad1 g1 ρ wr e1 gk1 e3 e2 w3 z3 (fun f hf => by rw [hw f hf, ecv f hf])
    | succ d ih =>
      intro f wr hf hw
      show q_X8_commit_40 _ _ _ _ _ _ _ _ _
      have hf5 : f < 5 := by omega
      have e75 : ∀ s0 : Int32, s0 = cvF nF m f → q_X8_commit_75 am g post (q_X8_commit_82 am g post) (lp_4 (q_X8_commit_40 am g post (q_X8_commit_82 am g post)) (d + 1)) s0 (nI f) (nI f) q6 wr ρ := fun s0 es => by
        unfold q_X8_commit_75
        refine ⟨vin_j hf5 (by decide), ?_⟩
        rintro _ rfl _ rfl
        rw [nI_1, nI_clamp (show f < 2 ^ 31 by omega)]
        refine ih (f + 1) _ (by omega) (fun f2 hf2 => ?_)
        by_cases e : f2 = f
        · subst e; rw [upd_eq, es]
        · rw [upd_ne e]; exact hw f2 (by omega)
      unfold q_X8_commit_40 q_X8_commit_74
      rw [nfm h3.lv]
      refine ⟨fun z => absurd ((nI_leI (a := 5) (b := f) (by decide) (by omega)).mp z) (by omega), fun _ => ⟨fun q3 => e75 (-1) ?_, fun q3 => s_X8_count (d := 0) (by decide) hf5 ?_⟩⟩
      · unfold cvF
        rw [if_neg (by have := (nI_leI (by omega) (by omega)).mp q3; omega)]
      · have hfn : f < nF := by
          rcases Nat.lt_or_ge f nF with w | w
          · exact w
          · exact absurd ((nI_leI (by omega) (by omega)).mpr w) q3
        rw [hm]
        obtain ⟨i, hi, ei⟩ := s8_ex (hr.2 f)
        refine ⟨fun q4 => e75 (-1) ?_, fun q4 => ?_⟩
        · unfold cvF
          rw [if_pos hfn, ei, on_no i hi (by rw [← ei]; exact q4)]
        · unfold q_X8_least
          refine s_setOf (d := 0) (by decide) hf5 ?_
          rw [hm, ei]
          obtain ⟨j, hj, ej⟩ := ntz8 i hi (by rw [← ei]; exact q4)
          rw [ej]
          refine s_ntz8 hj (e75 (nI j) ?_)
          unfold cvF
          rw [if_pos hfn, ei, ej, on_one j hj]
  exact ⟨6, key 5 0 _ rfl (fun f2 hf2 => absurd hf2 (Nat.not_lt_zero _))⟩
theorem rr_commit {g1 : Nat → Nat} {wr : Nat → Int32} {y : Int32} (h : RR σ g τ nF) (hlt : g 2 < 12) (e0 : g1 0 = g 0) (e2 : g1 2 = g 2 + 1) (hw : ∀ f : Nat, f < 5 → wr f = σ 22 f) : RR (kpM (g 2) σ) g1 (mup (mst τ 4 0 y) (200 + g 2) wr) nF := by
  have h5 := h.lv.1
  have k : ∀ p : Nat, p ≠ 23 → p ≠ 27 + g 2 → kpM (g 2) σ p = σ p := fun p a b => by unfold kpM; rw [mst_ne a, mup_ne b]
  have kr : kpM (g 2) σ (27 + g 2) = cp5 (σ 22) (σ (27 + g 2)) := by unfold kpM; rw [mst_ne (by omega), mup_eq]
  have t : ∀ p : Nat, p ≠ 4 → p ≠ 200 + g 2 → mup (mst τ 4 0 y) (200 + g 2) wr p = τ p := fun p a b => by rw [mup_ne b, mst_ne a]
  have tr : mup (mst τ 4 0 y) (200 + g 2) wr (200 + g 2) = wr := mup_eq
  refine h.fle e0 (by omega) (fun p hp => k p (by omega) (by omega)) (by unfold kpM; rw [mst_eq, upd_eq, e2]) (fun p hp => t p (by omega) (by omega)) (fun i _ => by rw [t 0 (by decide) (by omega)]) (fun m hm => ?_) (fun m hm => by rw [k 26 (by decide) (by omega), t 5 (by decide) (by omega)]; exact h.co m hm) (fun m f a b => by rw [k (39 + m) (by omega) (by omega), t 6 (by decide) (by omega)]; exact h.ha m f a b) (fun q f a b => ?_) (fun f a b => ⟨fun m hm => by rw [t 6 (by decide) (by omega)]; exact (h.bh f a b).1 m hm, fun q hq => ?_⟩)
  · have := h.fl m hm
    unfold FLm at this ⊢
    rw [t 5 (by decide) (by omega), t 6 (by decide) (by omega)]
    rcases this with q | ⟨k2, hk2, ek, hf9⟩
    · exact Or.inl q
    · exact Or.inr ⟨k2, by omega, ek, fun f hf => by rw [t (200 + k2) (by omega) (by omega)]; exact hf9 f hf⟩
  · by_cases e : q = g 2
    · subst e; rw [kr, tr, cp_lt b, hw f b]
    · rw [k (27 + q) (by omega) (by omega), t (200 + q) (by omega) (by omega)]; exact h.kp q f (by omega) b
  · by_cases e : q = g 2
    · subst e; rw [tr, hw f b]; exact h.oi.2.2.1 f a b
    · rw [t (200 + q) (by omega) (by omega)]; exact (h.bh f a b).2 q (by omega)
theorem j_commit {K : Int32 → Mem → Int64 → Value → Int32 → (Nat → Nat) → (Nat → Nat) → Mem → Prop} (hk : gk g) (h : RR σ g τ nF) (hp : J2 am K) : q_L_commit (fun k1 σ2 n3 v4 => q_X8_commit am g (fun r5 am6 g7 τ8 => K k1 σ2 n3 v4 r5 am6 g7 τ8) τ) n v σ := by
  unfold q_L_commit
  refine s_X5_commit h.ci (fun c => ⟨rfl, x_commit hk h (fun _ ρ w => hp _ _ _ _ _ _ _ _ _ rfl hk (h.w (w.trans (mst0_we (by omega)))) (by rw [mst_eq, upd_eq]) (no1 (by decide))) (fun a b => absurd ⟨a, b⟩ c)⟩) (fun a b => x_commit hk h (fun c => absurd ⟨a, b⟩ c) (fun _ _ ad1 g1 ρ wr e1 gk1 e0 e2 w z0 hw => hp _ _ _ _ _ _ _ _ _ e1 gk1 (rr_commit (h.w w) b e0 e2 hw) (by rw [mup_ne (by omega), mst_ne (by decide)]; exact z0) (fun _ => rfl)))
end JC
