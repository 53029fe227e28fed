/-! WHAT HOLDS OF THE CLASS'S OUTLOOK -/
theorem bf_cost {P : (Nat → Nat) → Prop} {w : Nat → Nat} {nF : Nat} : ∀ (d f : Nat) (x : Nat → Nat) (s : Sp), (s.1 = 1000 ∨ s.1 = cv_cs w nF s.2) → ((cv_bf P w nF d f x s).1 = 1000 ∨ (cv_bf P w nF d f x s).1 = cv_cs w nF (cv_bf P w nF d f x s).2) := by
  intro d
  induction d with
  | zero =>
    intro f x s hs
    unfold cv_bf
    by_cases q : P x ∧ cv_cs w nF x < s.1
    · rw [if_pos q]; exact Or.inr rfl
    · rw [if_neg q]; exact hs
  | succ d ih =>
    intro f x s hs
    unfold cv_bf
    have key : ∀ (k i : Nat) (s : Sp), (s.1 = 1000 ∨ s.1 = cv_cs w nF s.2) → ((cv_lp (fun i s => cv_bf P w nF d (f + 1) (cv_up x f i) s) k i s).1 = 1000 ∨ (cv_lp (fun i s => cv_bf P w nF d (f + 1) (cv_up x f i) s) k i s).1 = cv_cs w nF (cv_lp (fun i s => cv_bf P w nF d (f + 1) (cv_up x f i) s) k i s).2) := by
      intro k
      induction k with
      | zero => intro i s hs; exact hs
      | succ k ih2 =>
        intro i s hs
        unfold cv_lp
        exact ih2 (i + 1) _ (ih (f + 1) _ s hs)
    exact key 8 0 s hs
theorem bS_cost {P : (Nat → Nat) → Prop} {w : Nat → Nat} {nF : Nat} : (cv_bS P w nF).1 = 1000 ∨ (cv_bS P w nF).1 = cv_cs w nF (cv_bS P w nF).2 := by
  unfold cv_bS
  split
  · exact Or.inl rfl
  · exact bf_cost nF 0 _ _ (Or.inl rfl)
theorem bS_has {P : (Nat → Nat) → Prop} {w : Nat → Nat} {nF : Nat} (hc : ∀ y : Nat → Nat, P y → cv_Ok nF y → cv_cs w nF y < 1000) : (cv_bS P w nF).1 = 1000 ∨ ((cv_bS P w nF).1 < 1000 ∧ P (cv_bS P w nF).2 ∧ cv_Ok nF (cv_bS P w nF).2) := by
  unfold cv_bS
  split
  · exact Or.inl rfl
  · exact bf_has nF 0 (fun _ => 0) (1000, fun _ => 0) (Nat.zero_add _) (fun i hi => absurd hi (Nat.not_lt_zero i)) hc (Or.inl rfl)
/-- settling leaves something where something was -/
theorem set_nz {σ : Mem} {set : Int32} {nF nL : Nat} (hL : LV σ nF nL) : ∀ (d f : Nat) (m m' : Mw), f + d ≤ 5 → RW m → SetR σ set nF nL d f m m' → (∀ i : Nat, i < nF → ¬ m i = 0) → ∀ i : Nat, i < nF → ¬ m' i = 0 := by
  intro d
  induction d with
  | zero => intro f m m' _ _ h h0; rw [show m' = m from h]; exact h0
  | succ d ih =>
    intro f m m' hf hm h h0
    obtain ⟨m1, h1, h2⟩ := h
    have s1 : (∀ i : Nat, i < nF → ¬ m1 i = 0) ∧ RW m1 := by
      by_cases q : 2 ≤ bcF (m f)
      · rcases h1.1 q with ⟨k, hk, gk1, -, ek⟩ | ⟨-, ek⟩
        · rw [ek]
          exact ⟨fun i hi => mt_some hi gk1.2.2, mt_RW hL (ty_RW hm (by omega))⟩
        · rw [ek]; exact ⟨h0, hm⟩
      · rw [h1.2 q]; exact ⟨h0, hm⟩
    exact ih (f + 1) m1 m' (by omega) s1.2 h2 s1.1
theorem one_pw : ∀ k : Nat, k < 256 → ¬ bcF (nI k) = 1 ∨ (k = 1 ∨ k = 2 ∨ k = 4 ∨ k = 8 ∨ k = 16 ∨ k = 32 ∨ k = 64 ∨ k = 128) := by decide +kernel
theorem pw_sub : ∀ s : Nat, s < 256 → ∀ i : Nat, i < 8 → (¬ nI s &&& nI (2 ^ i) = nI s) ∨ s = 0 ∨ s = 2 ^ i := by decide +kernel
theorem one_num {k s : Nat} (hk : k < 256) (hs : s < 256) (h1 : bcF (nI k) = 1) (h2 : nI s &&& nI k = nI s) (h0 : ¬ s = 0) : nI s = nI k := by
  have hi : ∃ i : Nat, i < 8 ∧ k = 2 ^ i := by
    rcases one_pw k hk with q | q | q | q | q | q | q | q | q
    · exact absurd h1 q
    · exact ⟨0, by decide, q⟩
    · exact ⟨1, by decide, q⟩
    · exact ⟨2, by decide, q⟩
    · exact ⟨3, by decide, q⟩
    · exact ⟨4, by decide, q⟩
    · exact ⟨5, by decide, q⟩
    · exact ⟨6, by decide, q⟩
    · exact ⟨7, by decide, q⟩
  obtain ⟨i, hi, e⟩ := hi
  rw [e] at h2
  rcases pw_sub s hs i hi with q | q | q
  · exact absurd h2 q
  · exact absurd q h0
  · rw [q, e]
theorem on_1n : ∀ k : Nat, k < 256 → ¬ bcF (nI k) = 1 ∨ ¬ onF (nI k) 8 < 0 := by decide +kernel
theorem nneg8 : ∀ j : Nat, j < 8 → ¬ nI j < 0 := by decide
section FA
variable {g : Nat → Nat} {σ τ : Mem} {nF : Nat}
theorem may_0 (h : RR σ g τ nF) {f : Nat} (hf : f < nF) : σ 13 f = 0 ↔ ¬ σ 12 2 = 0 := by
  have h5 := h.lv.1
  obtain ⟨o1, o2, o3, o4⟩ := h.oi
  rw [(o4 (by omega)).1, o2]
  exact ⟨fun a b => mt_some hf b a, fun a => mt_no (by omega) a⟩
theorem may_8 (h : RR σ g τ nF) {f : Nat} (hf : f < nF) : σ 13 f &&& 255 = σ 13 f := by
  rw [(h.oi.2.2.2 (by omega)).1]
  exact (aM_RW h.ci.lv).2 f
theorem own_is (h : RR σ g τ nF) {f : Nat} (hf : f < nF) (hn : ¬ σ 22 f < 0) : hasB (σ 13 f) (σ 22 f) := by
  obtain ⟨j, hj, e, hb⟩ := is_may h hf (fun z => hn (by rw [z]; decide))
  rw [e]
  exact hb
theorem own_one (h : RR σ g τ nF) {f : Nat} (hf : f < nF) (h1 : bcF (σ 13 f) = 1) : ¬ σ 22 f < 0 := by
  have h5 := h.lv.1
  have hc : σ 12 2 = 0 := Classical.byContradiction (fun q => by
    rw [(may_0 h hf).mpr q] at h1
    exact absurd h1 (by decide))
  have h8 := may_8 h hf
  obtain ⟨o1, o2, o3, o4⟩ := h.oi
  obtain ⟨k1, k2, k3, k4, k5⟩ := o4 (by omega)
  have n0 : ¬ σ 17 f = 0 := set_nz h.ci.lv nF 0 _ _ (by omega) (aM_RW h.ci.lv) k4 (fun i hi => mt_some hi (by rw [o2] at hc; exact hc)) f hf
  have sb := sb_set h.ci.lv nF 0 _ _ (by omega) (aM_RW h.ci.lv) k4 f
  rw [← k1] at sb
  obtain ⟨a, ha, ea⟩ := s8_ex h8
  obtain ⟨b, hb, eb⟩ := s8_ex (k3.2 f)
  rw [ea, eb] at sb
  rw [ea] at h1
  have e := one_num ha hb h1 sb (fun z => n0 (by rw [eb, z]; rfl))
  rw [k5 f hf, eb, e]
  exact (on_1n a ha).elim (fun q => absurd h1 q) id
theorem best_c (h : RR σ g τ nF) {f : Nat} (hf : f < nF) : (σ 21 f < 0 ↔ σ 18 4 < 0) ∧ (¬ σ 21 f < 0 → hasB (σ 13 f) (σ 21 f)) := by
  have h5 := h.lv.1
  by_cases e : σ 18 4 = -1
  · rw [best_none h e f (by omega), e]
    exact ⟨Iff.rfl, fun z => absurd (by decide) z⟩
  · obtain ⟨j, hj, ej, hb⟩ := best_may h e f hf
    have h18 : ¬ σ 18 4 < 0 := by
      rcases h.bw.2.2 with ⟨-, z, -⟩ | ⟨z, z2, -⟩
      · exact absurd z e
      · rw [z2]; exact nI_pos (by omega)
    rw [ej]
    exact ⟨⟨fun z => absurd z (nneg8 j hj), fun z => absurd z h18⟩, fun _ => hb⟩
/-- the sum of weight by best -/
def csF (σ : Mem) : Nat → Nat → Int32 → Int32
  | 0, _, x => x
  | d + 1, f, x => csF σ d (f + 1) (x + σ 3 f * (if (0 : Int32) < σ 21 f then σ 21 f else 0))
theorem csF_nI {w b : Nat → Nat} {nF : Nat} (hw : ∀ f : Nat, f < nF → σ 3 f = nI (w f) ∧ w f < 10) (hb : ∀ f : Nat, f < nF → σ 21 f = nI (b f) ∧ b f < 8) : ∀ (d f : Nat) (x : Nat), f + d = nF → csF σ d f (nI x) = nI (x + (cv_cs w nF b - cv_cs w f b)) ∧ cv_cs w f b ≤ cv_cs w nF b := by
  intro d
  induction d with
  | zero =>
    intro f x hf
    have e : f = nF := by omega
    subst e
    exact ⟨by unfold csF; rw [Nat.sub_self, Nat.add_zero], Nat.le_refl _⟩
  | succ d ih =>
    intro f x hf
    unfold csF
    obtain ⟨e1, l1⟩ := hw f (by omega)
    obtain ⟨e2, l2⟩ := hb f (by omega)
    have e3 : (if (0 : Int32) < σ 21 f then σ 21 f else 0) = nI (b f) := by
      rw [e2]
      by_cases q : b f = 0
      · rw [q]; rfl
      · exact if_pos (nI_lt (a := 0) (by omega) (by omega))
    rw [e1, e3, nI_mul, nI_add]
    obtain ⟨i1, i2⟩ := ih (f + 1) (x + w f * b f) (by omega)
    have e4 : cv_cs w (f + 1) b = cv_cs w f b + w f * b f := rfl
    rw [e4] at i1 i2
    refine ⟨?_, by omega⟩
    rw [i1]
    congr 1
    omega
theorem cost_is (h : RR σ g τ nF) (hc : ¬ σ 18 4 < 0) : csF σ nF 0 0 = σ 18 4 := by
  have h5 := h.lv.1
  obtain ⟨b1, b2, b3⟩ := h.bw
  have k := bS_cost (P := cv_P σ (stF σ (g 0) 0 0) (g 0) nF full) (w := fun f => (σ 3 f).toNatClampNeg) (nF := nF)
  have k2 := bS_has (P := cv_P σ (stF σ (g 0) 0 0) (g 0) nF full) (w := fun f => (σ 3 f).toNatClampNeg) (nF := nF) (fun y _ ho => cs_1000 h5 (fun i hi => (wt_w h i hi).2) ho)
  have kh : ∀ f : Nat, f < nF → ∃ j : Nat, j < 8 ∧ σ 21 f = nI j ∧ hasB (σ 13 f) (nI j) := best_may h (fun z => hc (by rw [z]; decide))
  generalize cv_bS (cv_P σ (stF σ (g 0) 0 0) (g 0) nF full) (fun f => (σ 3 f).toNatClampNeg) nF = S at b3 k k2
  rcases b3 with ⟨-, e2, -⟩ | ⟨e1, e2, e3, -⟩
  · rw [e2] at hc; exact absurd (by decide) hc
  · rcases k with k | k
    · omega
    · have hb8 : ∀ f : Nat, f < nF → σ 21 f = nI ((σ 21 f).toNatClampNeg) ∧ (σ 21 f).toNatClampNeg < 8 := fun f hf => by
        obtain ⟨j, hj, ej, -⟩ := kh f hf
        rw [ej, nI_clamp (by omega)]
        exact ⟨rfl, hj⟩
      have hw9 : ∀ f : Nat, f < nF → σ 3 f = nI ((fun f => (σ 3 f).toNatClampNeg) f) ∧ (fun f => (σ 3 f).toNatClampNeg) f < 10 := fun f hf => by
        obtain ⟨j, hj, ej⟩ := vin_ex (by decide) (b1 f hf)
        show σ 3 f = nI ((σ 3 f).toNatClampNeg) ∧ (σ 3 f).toNatClampNeg < 10
        rw [ej, nI_clamp (by omega)]
        exact ⟨rfl, hj⟩
      have r := (csF_nI hw9 hb8 nF 0 0 (Nat.zero_add _)).1
      have e9 : csF σ nF 0 0 = csF σ nF 0 (nI 0) := rfl
      rw [e9, r, e2, k]
      congr 1
      rw [show cv_cs (fun f => (σ 3 f).toNatClampNeg) 0 (fun f => (σ 21 f).toNatClampNeg) = 0 from rfl, Nat.zero_add, Nat.sub_zero]
      refine cs_eq nF (fun i hi => ?_)
      show (σ 21 i).toNatClampNeg = S.2 i
      have e5 := e3 i hi
      obtain ⟨j, hj, ej, -⟩ := kh i hi
      have h8 : S.2 i < 8 := by
        rcases k2 with z | ⟨-, -, ko⟩
        · omega
        · exact ko i hi
      rw [ej, nI_clamp (by omega)]
      exact (nI_inj (by omega) (by omega) (e5.symm.trans ej)).symm
end FA
