/-! THE CLASS'S CHOOSER FINDS WHAT IS SAID, AND COUNTS IT -/
noncomputable def cv_bS (P : (Nat → Nat) → Prop) (w : Nat → Nat) (nF : Nat) : Sp := if nF = 0 then (1000, fun _ => 0) else cv_bf P w nF nF 0 (fun _ => 0) (1000, fun _ => 0)
theorem full_in {nF : Nat} {x : Nat → Nat} (h5 : nF ≤ 5) (hx : cv_Ok nF x) : cv_In nF x full := fun f hf => by
  unfold full
  rw [if_pos (by omega)]
  exact hb_255 (x f) (hx f hf)
theorem leaf_P {σ : Mem} {set : Int32} {nF nL : Nat} {al fr : Mw} {x : Nat → Nat} (h : LV σ nF nL) (hfr : ∀ f : Nat, f < nF → fr f = mtF σ set nF nL full f &&& al f) (hp : cv_PF σ set nL fr nF x) (hx : cv_Ok nF x) : cv_P σ set nL nF al x := by
  have b : ∀ f : Nat, f < nF → hasB (mtF σ set nF nL full f) (nI (x f)) ∧ hasB (al f) (nI (x f)) := fun f hf => by
    have := hp.1 f hf
    rw [hfr f hf] at this
    exact (hasB_and (hx f hf)).mp this
  refine ⟨fun j hj hb => ?_, fun f hf => (b f hf).2⟩
  by_cases k : σ 4 j = 3 ∨ σ 4 j = 4
  · exact hp.2 j hj hb k (la_lt h hj) (lo_lt h hj k)
  · exact fx_one h hx (mt_fx h full_RW) (fun f hf => (b f hf).1) hj hb k
theorem has_P {σ : Mem} {set : Int32} {nF nL : Nat} {al fr : Mw} {y : Nat → Nat} (h : LV σ nF nL) (hfr : ∀ f : Nat, f < nF → fr f = mtF σ set nF nL full f &&& al f) (hy : cv_P σ set nL nF al y) (hx : cv_Ok nF y) : cv_Hd σ set nL y ∧ ∀ f : Nat, f < nF → hasB (fr f) (nI (y f)) := by
  have b := (mt_in h hx hy.1 full_RW (full_in h.1 hx)).2
  refine ⟨hy.1, fun f hf => ?_⟩
  rw [hfr f hf]
  exact (hasB_and (hx f hf)).mpr ⟨b f hf, hy.2 f hf⟩
theorem P_sm {σ τ : Mem} {set : Int32} {nF nL : Nat} {al : Mw} (e : ∀ p : Nat, p ≤ 10 → τ p = σ p) : cv_P τ set nL nF al = cv_P σ set nL nF al := by
  funext y
  apply propext
  exact and_congr ⟨fun z j hj hb => (HL_sm e).mp (z j hj hb), fun z j hj hb => (HL_sm e).mpr (z j hj hb)⟩ Iff.rfl
theorem P_ag {σ ρ : Mem} {set : Int32} {nF nL : Nat} {al : Mw} (h : Agr σ ρ) (hn : nL ≤ 30) : cv_P σ set nL nF al = cv_P ρ set nL nF al := by
  funext y
  apply propext
  have e : ∀ j : Nat, j < nL → (cv_HL σ j y ↔ cv_HL ρ j y) := fun j hj => by
    unfold cv_HL
    rw [h 4 j (by decide) (by decide) (by omega), h 6 j (by decide) (by decide) (by omega), h 7 j (by decide) (by decide) (by omega), h 8 j (by decide) (by decide) (by omega)]
  exact and_congr ⟨fun z j hj hb => (e j hj).mp (z j hj hb), fun z j hj hb => (e j hj).mpr (z j hj hb)⟩ Iff.rfl
theorem pf_0 {σ : Mem} {set : Int32} {nL : Nat} {fr : Mw} {x : Nat → Nat} : cv_PF σ set nL fr 0 x := ⟨fun i hi => absurd hi (Nat.not_lt_zero i), fun k _ _ _ ha => absurd ha (Nat.not_lt_zero _)⟩
theorem and_full {σ : Mem} {set : Int32} {nF nL f : Nat} (h : LV σ nF nL) (hf : f < 5) : mtF σ set nF nL full f = mtF σ set nF nL full f &&& full f := by
  have := (mt_RW (set := set) h full_RW).2 f
  unfold full at this ⊢
  rw [if_pos hf]
  exact this.symm
theorem fb_rp {σ : Mem} {set : Int32} {nF nL : Nat} (h : LV σ nF nL) (hw : ∀ f : Nat, f < nF → vp_in (σ 3 f) 10) (e13 : ∀ f : Nat, f < nF → σ 13 f = mtF σ set nF nL full f) :
    cv_Rp nF (fbF nF nL σ set) (cv_bS (cv_P σ set nL nF full) (fun f => (σ 3 f).toNatClampNeg) nF) ∧ fbF nF nL σ set 18 5 = set := by
  have h5 := h.1
  have r0 : cv_Rp nF (fb0 σ set) (1000, fun _ => 0) := by
    refine Or.inl ⟨rfl, ?_, fun f hf => ?_⟩
    · unfold fb0
      rw [mup_ne (by decide), mst_eq, upd_eq]
    · unfold fb0
      rw [mup_eq]
      exact if_pos hf
  have e5 : fb0 σ set 18 5 = set := by
    unfold fb0
    rw [mup_ne (by decide), mst_eq, upd_ne (by decide), mst_eq, upd_eq]
  unfold fbF cv_bS
  by_cases q : nF = 0
  · rw [if_pos q, if_pos q]; exact ⟨r0, e5⟩
  · rw [if_neg q, if_neg q]
    have e10 : ∀ p : Nat, p ≤ 10 → fb0 σ set p = σ p := fun p hp => fb0_fr ⟨by omega, by omega, by omega⟩ (by omega) σ set
    have e19 : ∀ f : Nat, f < nF → fb0 σ set 19 f = mtF σ set nF nL full f := fun f hf => by
      unfold fb0
      rw [mup_ne (by decide), mst_ne (by decide), mst_ne (by decide), mup_eq, cp_lt (by omega)]
      exact e13 f hf
    have hL : LV (fb0 σ set) nF nL := h.sm e10
    have eM : mtF (fb0 σ set) = mtF σ := mtF_sm e10
    have := ch_bf (set := set) (fr := mtF σ set nF nL full) (P := cv_P (fb0 σ set) set nL nF full) hL e5 (fun f hf => by rw [e10 3 (by decide)]; exact hw f hf) e19
      (fun x hp hx => leaf_P hL (fun f hf => by rw [eM]; exact and_full h (by omega)) hp hx) (fun y hy hx => has_P hL (fun f hf => by rw [eM]; exact and_full h (by omega)) hy hx)
      6 0 nF (fun _ => 0) (1000, fun _ => 0) (fb0 σ set) (Nat.zero_add _) (by omega) ⟨fun _ _ => rfl, rfl⟩ (fun f hf => absurd hf (Nat.not_lt_zero f)) (fun k hk => absurd hk (Nat.not_lt_zero k)) pf_0 r0
    rw [P_sm e10, show (fun f : Nat => (fb0 σ set 3 f).toNatClampNeg) = (fun f : Nat => (σ 3 f).toNatClampNeg) by rw [e10 3 (by decide)]] at this
    exact ⟨this.1, this.2.1.2.trans e5⟩
theorem lp_fix {S : Type} {g : Nat → S → S} {s : S} (h : ∀ i : Nat, g i s = s) : ∀ k i : Nat, cv_lp g k i s = s := by
  intro k
  induction k with
  | zero => intro i; rfl
  | succ k ih =>
    intro i
    unfold cv_lp
    rw [h i]
    exact ih (i + 1)
theorem co_cf {σ0 : Mem} {set : Int32} {nF nL : Nat} {fr : Mw} {P : (Nat → Nat) → Prop} (h : LV σ0 nF nL) (e5 : σ0 18 5 = set) (e19 : ∀ f : Nat, f < nF → σ0 19 f = fr f)
    (hl : ∀ x : Nat → Nat, cv_PF σ0 set nL fr nF x → cv_Ok nF x → P x) (hc : ∀ y : Nat → Nat, P y → cv_Ok nF y → cv_Hd σ0 set nL y ∧ ∀ f : Nat, f < nF → hasB (fr f) (nI (y f))) :
    ∀ (n f d : Nat) (x : Nat → Nat) (s : Nat) (σ : Mem), f + d = nF → nF < f + n → cv_Cx σ0 σ → cv_Ok f x → (∀ k : Nat, k < f → σ 20 k = nI (x k)) → cv_PF σ0 set nL fr f x → σ 18 6 = nI s → s < 500 →
      coF nF nL n f σ 18 6 = nI (cv_cf P d f x s) ∧ cv_Cx σ0 (coF nF nL n f σ) ∧ ∀ k : Nat, k < f → coF nF nL n f σ 20 k = σ 20 k := by
  have h5 := h.1
  intro n
  induction n with
  | zero => intro f d x s σ h1 h2; omega
  | succ n ih =>
    intro f d x s σ hf hn hC hx h20 hp hr hs
    have e10 : ∀ p : Nat, p ≤ 10 → σ p = σ0 p := fun p hp => hC.1 p ⟨by omega, by omega, by omega⟩
    have hL : LV σ nF nL := h.sm e10
    unfold coF
    by_cases q : f < nF
    · obtain ⟨d1, rfl⟩ : ∃ d1 : Nat, d = d1 + 1 := ⟨d - 1, by omega⟩
      have p1 : cv_PF σ set nL fr f x := ⟨hp.1, fun k hk hb k2 ha ho => (HL_sm e10).mpr (hp.2 k hk hb (by rw [← e10 4 (by decide)]; exact k2) (by rw [← e10 6 (by decide)]; exact ha) (by rw [← e10 7 (by decide)]; exact ho))⟩
      have f5 : σ 18 5 = set := by rw [hC.2, e5]
      have f19 : σ 19 f = fr f := by rw [hC.1 19 ⟨by decide, by decide, by decide⟩]; exact e19 f q
      have fit1 := fun (i : Nat) (hi : i < 8) => fi_ok (i := i) hL q hx h20 hi f5 f19 p1
      have fit2 := fun (i : Nat) (hi : i < 8) (y : Nat → Nat) => fi_no (i := i) (y := y) hL q hx h20 hi f5 f19
      rw [if_pos q]
      generalize fiF σ f nL 0 (σ 19 f) = fit at fit1 fit2
      have key : ∀ (k i : Nat) (s : Nat) (σ1 : Mem), i + k = 8 → cv_Cx σ0 σ1 → (∀ j : Nat, j < f → σ1 20 j = nI (x j)) → σ1 18 6 = nI s → s ≤ 500 →
          coN (coF nF nL n) f fit k i σ1 18 6 = nI (cv_lp (fun i s => if 500 ≤ s then s else cv_cf P d1 (f + 1) (cv_up x f i) s) k i s) ∧ cv_Cx σ0 (coN (coF nF nL n) f fit k i σ1) ∧ ∀ j : Nat, j < f → coN (coF nF nL n) f fit k i σ1 20 j = nI (x j) := by
        intro k
        induction k with
        | zero => intro i s σ1 _ a b c _; exact ⟨c, a, b⟩
        | succ k ih2 =>
          intro i s σ1 hi a b c hs
          have l5 : (500 : Int32) ≤ nI s ↔ 500 ≤ s := nI_leI (a := 500) (by decide) (by omega)
          unfold coN
          by_cases q5 : 500 ≤ s
          · rw [c, if_pos (l5.mpr q5)]
            have e : cv_lp (fun i s => if 500 ≤ s then s else cv_cf P d1 (f + 1) (cv_up x f i) s) (k + 1) i s = s := lp_fix (g := fun i s => if 500 ≤ s then s else cv_cf P d1 (f + 1) (cv_up x f i) s) (s := s) (fun i => if_pos q5) (k + 1) i
            rw [e]
            exact ⟨c, a, b⟩
          · rw [c, if_neg (fun z => q5 (l5.mp z))]
            unfold cv_lp
            show coN (coF nF nL n) f fit k (i + 1) _ 18 6 = nI (cv_lp _ k (i + 1) (if 500 ≤ s then s else cv_cf P d1 (f + 1) (cv_up x f i) s)) ∧ _
            rw [if_neg q5]
            by_cases hb : ((fit >>> (nI i &&& 31)) &&& 1) = 0
            · rw [if_pos hb]
              have st : cv_cf P d1 (f + 1) (cv_up x f i) s = s := cf_stay (nF := nF) d1 (f + 1) _ s (by omega) (ok_up hx (by omega)) (fun y hy ho hP => by
                obtain ⟨y1, y2⟩ := hc y hP ho
                exact absurd hb (fit2 i (by omega) y hy (fun j hj hb => (HL_sm e10).mpr (y1 j hj hb)) (y2 f q)))
              rw [st]
              exact ih2 (i + 1) s σ1 (by omega) a b c hs
            · rw [if_neg hb]
              have p2 := fit1 i (by omega) hb
              have p3 : cv_PF σ0 set nL fr (f + 1) (cv_up x f i) := ⟨p2.1, fun k hk hb k2 ha ho => (HL_sm e10).mp (p2.2 k hk hb (by rw [e10 4 (by decide)]; exact k2) (by rw [e10 6 (by decide)]; exact ha) (by rw [e10 7 (by decide)]; exact ho))⟩
              obtain ⟨i1, i2, i3⟩ := ih (f + 1) d1 (cv_up x f i) s (mst σ1 20 f (nI i)) (by omega) (by omega) ⟨fun p hp => by rw [mst_ne hp.2.1]; exact a.1 p hp, by rw [mst_ne (by decide)]; exact a.2⟩ (ok_up hx (by omega)) (fun j hj => by
                  rw [mst_eq]
                  by_cases e : j = f
                  · rw [e, upd_eq, up_at]
                  · rw [upd_ne e, up_lo e]; exact b j (by omega)) p3 (by rw [mst_ne (by decide)]; exact c) (by omega)
              exact ih2 (i + 1) _ _ (by omega) i2 (fun j hj => by rw [i3 j (by omega), mst_eq, upd_ne (by omega)]; exact b j hj) i1 (cf_le d1 (f + 1) _ s (by omega))
      obtain ⟨k1, k2, k3⟩ := key 8 0 s σ rfl hC h20 hr (by omega)
      exact ⟨k1, k2, fun k hk => by rw [k3 k hk, h20 k hk]⟩
    · have ef : f = nF := by omega
      subst ef
      have ed : d = 0 := by omega
      subst ed
      unfold cv_cf
      rw [if_neg (Nat.lt_irrefl _), if_pos (hl x hp hx)]
      refine ⟨?_, ⟨fun p hp => by rw [mst_ne hp.1]; exact hC.1 p hp, ?_⟩, fun k hk => by rw [mst_ne (by decide)]⟩
      · rw [mst_eq, upd_eq, hr]
        exact nI_1 s
      · rw [mst_eq, upd_ne (by decide)]; exact hC.2
theorem co_fr {nF nL : Nat} : ∀ (n f : Nat) (σ : Mem), coF nF nL n f σ 21 = σ 21 ∧ ∀ i : Nat, i ≠ 6 → coF nF nL n f σ 18 i = σ 18 i := by
  intro n
  induction n with
  | zero => intro f σ; exact ⟨rfl, fun _ _ => rfl⟩
  | succ n ih =>
    intro f σ
    have key : ∀ (fit : Int32) (k i : Nat) (σ1 : Mem), coN (coF nF nL n) f fit k i σ1 21 = σ1 21 ∧ ∀ q : Nat, q ≠ 6 → coN (coF nF nL n) f fit k i σ1 18 q = σ1 18 q := by
      intro fit k
      induction k with
      | zero => intro i σ1; exact ⟨rfl, fun _ _ => rfl⟩
      | succ k ih2 =>
        intro i σ1
        unfold coN
        split
        · exact ⟨rfl, fun _ _ => rfl⟩
        · by_cases hb : ((fit >>> (nI i &&& 31)) &&& 1) = 0
          · rw [if_pos hb]; exact ih2 (i + 1) σ1
          · rw [if_neg hb]
            obtain ⟨a, b⟩ := ih2 (i + 1) (coF nF nL n (f + 1) (mst σ1 20 f (nI i)))
            obtain ⟨c, d⟩ := ih (f + 1) (mst σ1 20 f (nI i))
            exact ⟨by rw [a, c, mst_ne (by decide)], fun q hq => by rw [b q hq, d q hq, mst_ne (by decide)]⟩
    unfold coF
    split
    · exact key _ 8 0 σ
    · exact ⟨by rw [mst_ne (by decide)], fun q hq => by rw [mst_eq, upd_ne hq]⟩
theorem ctR_best {nF nL f : Nat} {σ : Mem} {p3 : Int32} : ctR nF nL σ f p3 21 = σ 21 ∧ ∀ i : Nat, i ≠ 6 → ctR nF nL σ f p3 18 i = σ 18 i := by
  unfold ctR
  obtain ⟨a, b⟩ := co_fr (nF := nF) (nL := nL) 6 0 (ctM σ f p3)
  refine ⟨?_, fun i hi => ?_⟩
  · rw [a]
    unfold ctM
    rw [mst_ne (by decide), mst_ne (by decide), mup_ne (by decide)]
  · rw [b i hi]
    unfold ctM
    rw [mst_eq, upd_ne hi, mst_ne (by decide), mup_ne (by decide)]
/-- the row of all numbers, of one field just one -/
def cv_al (F N : Nat) : Mw := upd full F (b1 N)
theorem ct_cf {σ : Mem} {set : Int32} {nF nL F N : Nat} (h : LV σ nF nL) (hF : F < nF) (e5 : σ 18 5 = set) (e13 : ∀ f : Nat, f < nF → σ 13 f = mtF σ set nF nL full f) :
    ctR nF nL σ F (nI N) 18 6 = nI (cv_cf (cv_P σ set nL nF (cv_al F N)) nF 0 (fun _ => 0) 0) := by
  have h5 := h.1
  have e10 : ∀ p : Nat, p ≤ 10 → ctM σ F (nI N) p = σ p := fun p hp => by
    unfold ctM
    rw [mst_ne (by omega), mst_ne (by omega), mup_ne (by omega)]
  have f5 : ctM σ F (nI N) 18 5 = set := by
    unfold ctM
    rw [mst_eq, upd_ne (by decide), mst_ne (by decide), mup_ne (by decide)]
    exact e5
  have e19 : ∀ f : Nat, f < nF → ctM σ F (nI N) 19 f = mtF σ set nF nL full f &&& cv_al F N f := fun f hf => by
    unfold ctM cv_al
    rw [mst_ne (by decide), mst_eq]
    by_cases e : f = F
    · subst e
      rw [upd_eq, upd_eq, cp_lt (by omega), e13 f hf]
      rfl
    · rw [upd_ne e, upd_ne e, mup_eq, cp_lt (by omega), e13 f hf]
      exact and_full h (by omega)
  have hL : LV (ctM σ F (nI N)) nF nL := h.sm e10
  have eM : mtF (ctM σ F (nI N)) = mtF σ := mtF_sm e10
  have := co_cf (set := set) (fr := fun f => mtF σ set nF nL full f &&& cv_al F N f) (P := cv_P (ctM σ F (nI N)) set nL nF (cv_al F N)) hL f5 e19
    (fun x hp hx => leaf_P hL (fun f hf => by rw [eM]) hp hx) (fun y hy hx => has_P hL (fun f hf => by rw [eM]) hy hx)
    6 0 nF (fun _ => 0) 0 (ctM σ F (nI N)) (Nat.zero_add _) (by omega) ⟨fun _ _ => rfl, rfl⟩ (fun f hf => absurd hf (Nat.not_lt_zero f)) (fun k hk => absurd hk (Nat.not_lt_zero k)) pf_0 (by unfold ctM; rw [mst_eq, upd_eq]; rfl) (by decide)
  rw [P_sm e10] at this
  exact this.1
