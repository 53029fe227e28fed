/-! SIDE BY SIDE: lines told -/
def lnT (n : Nat) (kd by_ ab sd bs : Int32) (τ : Mem) : Mem := mup (mst (mst τ 0 0 0) 3 0 (mst τ 0 0 0 3 0 + 1)) (100 + n) (lnR kd by_ ab sd bs 0 0)
abbrev two (kd : Int32) : Prop := kd = 3 ∨ kd = 4
theorem x_tell {ad g : Nat → Nat} {post : GP} {kd by_ ab sd bs ok : Int32} {τ : Mem} {nF : Nat} (hk : gk g) (hL : LV (tm (g 0) τ) nF (g 0))
    (x1 : ¬ (vp_in ab nF ∧ (two kd → vp_in sd nF)) → post 0 ad g (mst (mst τ 0 0 0) 0 0 1))
    (x2 : (vp_in ab nF ∧ (two kd → vp_in sd nF)) → ¬ (vp_in by_ 4 ∧ ¬ ok = 0 ∧ (two kd → ¬ sd = ab)) → post 0 ad g (mst (mst τ 0 0 0) 0 0 2))
    (x3 : (vp_in ab nF ∧ (two kd → vp_in sd nF)) → (vp_in by_ 4 ∧ ¬ ok = 0 ∧ (two kd → ¬ sd = ab)) → g 0 = 30 → post 0 ad g (mst (mst τ 0 0 0) 0 0 3))
    (hp : (vp_in ab nF ∧ (two kd → vp_in sd nF)) → (vp_in by_ 4 ∧ ¬ ok = 0 ∧ (two kd → ¬ sd = ab)) → g 0 < 30 → ∀ ad1 g1 : Nat → Nat, ad1 0 = ad 0 → gk g1 → g1 0 = g 0 + 1 → g1 2 = g 2 → post (nI (g 0)) ad1 g1 (lnT (g 0) kd by_ ab sd bs τ)) : q_X8_tell ad g post kd by_ ab sd bs ok τ := by
  have h30 : g 0 ≤ 30 := hk.1.2.2.1
  have h5 := hL.1
  have w1 : WE τ (mst τ 0 0 0) := mst0_we (by omega)
  have hL1 := w1.lv hL
  unfold q_X8_tell
  rintro _ rfl
  have e81 : (vp_in ab nF ∧ (two kd → vp_in sd nF)) → (vp_in by_ 4 ∧ ¬ ok = 0 ∧ (two kd → ¬ sd = ab)) → q_X8_tell_81 ad g post kd by_ ab sd bs (mst τ 0 0 0) := fun c1 c2 => by
    unfold q_X8_tell_81
    refine ⟨fun q => ?_, fun q => x_refuse (x3 c1 c2 (nI_inj (by omega) (by decide) q))⟩
    have hlt : g 0 < 30 := by
      rcases Nat.lt_or_ge (g 0) 30 with z | z
      · exact z
      · exact absurd (by rw [show g 0 = 30 by omega]; rfl) q
    refine ⟨hlt, ?_⟩
    rintro ad1 g1 _ e1 gk1 e2 e3 rfl
    have er : nI (g1 0) - 1 = nI (g 0) := by
      rw [e2, ← nI_1]
      exact Int32.add_sub_cancel _ _
    rw [er]
    exact hp c1 c2 hlt ad1 g1 e1 gk1 e2 e3
  have e50 : ∀ s0 : Int32, (s0 = 0 ↔ ¬ two kd) → (vp_in ab nF ∧ (two kd → vp_in sd nF)) → q_X8_tell_50 ad g post kd by_ ab sd bs ok s0 (mst τ 0 0 0) := fun s0 h0 c1 => by
    unfold q_X8_tell_50 q_X8_tell_75
    refine s_X8_is (fun r hr => ⟨fun z => x_refuse (x2 c1 (fun w => hr.f z ((is_vin (n := 4) (by decide)).mpr w.1))), fun z => ⟨fun q => x_refuse (x2 c1 (fun w => w.2.1 q)), fun q => ⟨fun y => e81 c1 ⟨(is_vin (n := 4) (by decide)).mp (hr.t z), q, fun t => absurd t (h0.mp y)⟩, fun y => ⟨fun ne => e81 c1 ⟨(is_vin (n := 4) (by decide)).mp (hr.t z), q, fun _ => ne⟩, fun e => x_refuse (x2 c1 (fun w => w.2.2 (Classical.byContradiction fun nt => y (h0.mpr nt)) e))⟩⟩⟩⟩)
  have e20 : ∀ s0 : Int32, (s0 = 0 ↔ ¬ two kd) → q_X8_tell_20 ad g post s0 kd by_ ab sd bs ok (mst τ 0 0 0) := fun s0 h0 => by
    unfold q_X8_tell_20 q_X8_tell_44
    refine s_X8_isField hL1 (fun r hr => ⟨fun z => x_refuse (x1 (fun w => hr.f z w.1)), fun q => ⟨fun z => ?_, fun z => s_X8_isField hL1 (fun r2 hr2 => ⟨fun q2 => e50 s0 h0 ⟨hr.t q, fun _ => hr2.t q2⟩, fun q2 => x_refuse (x1 (fun w => hr2.f q2 (w.2 (Classical.byContradiction fun nt => z (h0.mpr nt)))))⟩)⟩⟩)
    have := e50 s0 h0 ⟨hr.t q, fun t => absurd t (h0.mp z)⟩
    exact this
  unfold q_X8_tell_15
  exact ⟨fun q3 => e20 1 ⟨fun z => absurd z (by decide), fun z => absurd (Or.inl q3) z⟩, fun q3 => ⟨fun q4 => e20 0 ⟨fun _ z => z.elim q3 q4, fun _ => rfl⟩, fun q4 => e20 1 ⟨fun z => absurd z (by decide), fun z => absurd (Or.inr q4) z⟩⟩⟩
theorem rr_tell {σ τ : Mem} {g g1 : Nat → Nat} {nF : Nat} {kd by_ ab sd bs : Int32} (h : RR σ g τ nF) (hlt : g 0 < 30) (e0 : g1 0 = g 0 + 1) (e2 : g1 2 = g 2) (hk : lnOk nF kd ab sd bs) : RR (rnw nF (g 0 + 1) (lnN (g 0) kd by_ ab sd bs σ)) g1 (lnT (g 0) kd by_ ab sd bs τ) nF ∧ lnT (g 0) kd by_ ab sd bs τ 0 0 = 0 := by
  have k : ∀ p : Nat, p ≠ 0 → p ≠ 3 → p ≠ 100 + g 0 → lnT (g 0) kd by_ ab sd bs τ p = τ p := fun p a b c => by
    unfold lnT
    rw [mup_ne c, mst_ne b, mst_ne a]
  have k0 : ∀ i : Nat, i ≠ 0 → lnT (g 0) kd by_ ab sd bs τ 0 i = τ 0 i := fun i a => by
    unfold lnT
    rw [mup_ne (by omega), mst_ne (by decide), mst_eq, upd_ne a]
  have kl : lnT (g 0) kd by_ ab sd bs τ (100 + g 0) = lnR kd by_ ab sd bs 0 0 := by
    unfold lnT
    rw [mup_eq]
  have fr := h.fr (g 0) (Nat.le_refl _) hlt
  have A : Agr (lnN (g 0) kd by_ ab sd bs σ) (tm (g 0 + 1) (lnT (g 0) kd by_ ab sd bs τ)) := fun p j a b c => by
    have hag := h.ag p j a b c
    -- places 4 to 8: a line written; 9, 10: nothing
    have ln : ∀ (q i : Nat) (y : Int32), lnR kd by_ ab sd bs 0 0 i = y → lnN (g 0) kd by_ ab sd bs σ q = upd (σ q) (g 0) y → σ q j = τ (100 + j) i → lnN (g 0) kd by_ ab sd bs σ q j = lnT (g 0) kd by_ ab sd bs τ (100 + j) i := fun q i y ey eq es => by
      rw [eq]
      by_cases e : j = g 0
      · subst e; rw [upd_eq, kl, ey]
      · rw [upd_ne e, k (100 + j) (by omega) (by omega) (by omega)]; exact es
    have lo : ∀ (q i : Nat), (q = 9 ∧ i = 5 ∨ q = 10 ∧ i = 6) → σ q j = τ (100 + j) i → lnN (g 0) kd by_ ab sd bs σ q j = lnT (g 0) kd by_ ab sd bs τ (100 + j) i := fun q i hq es => by
      rw [lnN_hi (by omega), es]
      by_cases e : j = g 0
      · subst e
        rw [kl]
        rcases hq with ⟨-, rfl⟩ | ⟨-, rfl⟩
        · exact fr.1
        · exact fr.2
      · rw [k (100 + j) (by omega) (by omega) (by omega)]
    rcases (show p = 1 ∨ p = 2 ∨ p = 3 ∨ p = 4 ∨ p = 5 ∨ p = 6 ∨ p = 7 ∨ p = 8 ∨ p = 9 ∨ p = 10 by omega) with rfl | rfl | rfl | rfl | rfl | rfl | rfl | rfl | rfl | rfl
    · show lnN (g 0) kd by_ ab sd bs σ 1 j = (if j = 9 then lnT (g 0) kd by_ ab sd bs τ 0 3 else if j = 10 then nI (g 0 + 1) else 0)
      have hag : σ 1 j = (if j = 9 then τ 0 3 else if j = 10 then nI (g 0) else 0) := hag
      rw [lnN_1, k0 3 (by decide)]
      by_cases e : j = 10
      · subst e; rw [upd_eq]; rfl
      · rw [upd_ne e, hag, if_neg e, if_neg e]
    · show lnN (g 0) kd by_ ab sd bs σ 2 j = lnT (g 0) kd by_ ab sd bs τ 1 j
      rw [lnN_hi (by omega), k 1 (by omega) (by omega) (by omega)]; exact hag
    · show lnN (g 0) kd by_ ab sd bs σ 3 j = lnT (g 0) kd by_ ab sd bs τ 2 j
      rw [lnN_hi (by omega), k 2 (by omega) (by omega) (by omega)]; exact hag
    · exact ln 4 0 kd rfl lnN_4 hag
    · exact ln 5 1 by_ rfl lnN_5 hag
    · exact ln 6 2 ab rfl lnN_6 hag
    · exact ln 7 3 sd rfl lnN_7 hag
    · exact ln 8 4 bs rfl lnN_8 hag
    · exact lo 9 5 (by omega) hag
    · exact lo 10 6 (by omega) hag
  have hL9 : LV (tm (g 0 + 1) (lnT (g 0) kd by_ ab sd bs τ)) nF (g 0 + 1) := ag_lv A (lnN_lv h.ci.lv hlt hk)
  refine ⟨?_, ?_⟩
  · rw [← e0] at A hL9 ⊢
    refine h.t (fun p hp => lnN_hi (by omega)) (Nat.le_refl _) e2 hL9 A (fun j a b => ?_) (k 5 (by omega) (by omega) (by omega)) (k 6 (by omega) (by omega) (by omega)) (fun q hq => k (200 + q) (by omega) (by omega) (by omega)) (k0 8 (by decide)) (fun f hf => by rw [k 1 (by omega) (by omega) (by omega)]; exact h.te f hf) (fun f hf => by rw [lnN_hi (by omega)]; exact h.bw.1 f hf)
    rw [k (100 + j) (by omega) (by omega) (by omega)]
    exact h.fr j (by omega) b
  · unfold lnT
    rw [mup_ne (by omega), mst_ne (by decide), mst_eq, upd_eq]
