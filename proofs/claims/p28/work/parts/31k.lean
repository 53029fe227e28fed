/-! CHOOSING, THE CLASS'S WAY: what fits, field by field -/
abbrev cv_P (σ : Mem) (set : Int32) (nL nF : Nat) (al : Mw) : (Nat → Nat) → Prop := fun y => cv_Hd σ set nL y ∧ cv_In nF y al
theorem HL_cg {σ : Mem} {j : Nat} {x y : Nat → Nat} (h : cv_HL σ j x) (ea : x (σ 6 j).toNatClampNeg = y (σ 6 j).toNatClampNeg) (eo : (σ 4 j = 3 ∨ σ 4 j = 4) → x (σ 7 j).toNatClampNeg = y (σ 7 j).toNatClampNeg) : cv_HL σ j y := by
  refine ⟨fun k => ?_, fun k => ?_⟩
  · rw [← ea, ← eo k]; exact h.1 k
  · rw [← ea]; exact h.2 k
theorem HL_sm {σ τ : Mem} {j : Nat} {x : Nat → Nat} (e : ∀ p : Nat, p ≤ 10 → τ p = σ p) : cv_HL τ j x ↔ cv_HL σ j x := by
  unfold cv_HL
  rw [e 4 (by decide), e 6 (by decide), e 7 (by decide), e 8 (by decide)]
def cv_At (σ : Mem) (f k : Nat) : Prop := (σ 4 k = 3 ∨ σ 4 k = 4) ∧ ((σ 6 k).toNatClampNeg = f ∧ (σ 7 k).toNatClampNeg < f ∨ (σ 7 k).toNatClampNeg = f ∧ (σ 6 k).toNatClampNeg < f)
theorem fi_one {σ : Mem} {f nF nL i j : Nat} {x : Nat → Nat} {y : Int32} (h : LV σ nF nL) (hf : f < nF) (hx : cv_Ok f x) (h20 : ∀ k : Nat, k < f → σ 20 k = nI (x k)) (hi : i < 8) (hj : j < nL) :
    hasB (fiS σ f j y) (nI i) ↔ hasB y (nI i) ∧ (¬ ((σ 18 5 >>> (nI j &&& 31)) &&& 1) = 0 → cv_At σ f j → cv_HL σ j (cv_up x f i)) := by
  have h5 := h.1
  unfold fiS
  by_cases hb : ((σ 18 5 >>> (nI j &&& 31)) &&& 1) = 0
  · rw [if_pos hb]
    exact ⟨fun z => ⟨z, fun n => absurd hb n⟩, fun z => z.1⟩
  · rw [if_neg hb]
    by_cases k : σ 4 j = 3 ∨ σ 4 j = 4
    · rw [if_neg (fun z => z k)]
      obtain ⟨a, ha, ea⟩ := vin_ex (by omega) (h.2.2.2.2 j hj).1
      obtain ⟨o, ho, eo⟩ := vin_ex (by omega) ((h.2.2.2.2 j hj).2.2.1 k).1
      have ca : (σ 6 j).toNatClampNeg = a := by rw [ea]; exact nI_clamp (by omega)
      have co : (σ 7 j).toNatClampNeg = o := by rw [eo]; exact nI_clamp (by omega)
      have ne := lao_ne h hj k
      rw [ca, co] at ne
      have hl : cv_HL σ j (cv_up x f i) ↔ hasB (loF (σ 4 j) (σ 8 j) 0 (b1 (cv_up x f i o))) (nI (cv_up x f i a)) := by
        unfold cv_HL
        rw [ca, co]
        exact ⟨fun z => z.1 k, fun z => ⟨fun _ => z, fun n => absurd k n⟩⟩
      have at_ : cv_At σ f j ↔ (a = f ∧ o < f ∨ o = f ∧ a < f) := by
        unfold cv_At
        rw [ca, co]
        exact ⟨fun z => z.2, fun z => ⟨k, z⟩⟩
      rw [hl, at_, ca, co, ea, eo]
      have ia : nI a = nI f ↔ a = f := ⟨fun z => nI_inj (by omega) (by omega) z, fun z => by rw [z]⟩
      have io : nI o = nI f ↔ o = f := ⟨fun z => nI_inj (by omega) (by omega) z, fun z => by rw [z]⟩
      have lo : nI f ≤ nI o ↔ f ≤ o := nI_leI (by omega) (by omega)
      have la : nI f ≤ nI a ↔ f ≤ a := nI_leI (by omega) (by omega)
      by_cases c1 : a = f ∧ o < f
      · rw [if_pos ⟨ia.mpr c1.1, fun z => by have := lo.mp z; omega⟩, h20 o c1.2, hasB_and hi]
        have e1 : cv_up x f i o = x o := up_lo (by omega)
        have e2 : cv_up x f i a = i := by rw [c1.1]; exact up_at
        rw [e1, e2]
        exact and_congr Iff.rfl ⟨fun z _ _ => z, fun z => z hb (Or.inl c1)⟩
      · rw [if_neg (fun z => c1 ⟨ia.mp z.1, Nat.lt_of_not_le (fun q => z.2 (lo.mpr q))⟩)]
        by_cases c2 : o = f ∧ a < f
        · rw [if_neg (fun z => z (io.mpr c2.1)), if_neg (fun z => by have := la.mp z; omega), h20 a c2.2, hasB_and hi]
          have e1 : cv_up x f i a = x a := up_lo (by omega)
          have e2 : cv_up x f i o = i := by rw [c2.1]; exact up_at
          rw [e1, e2]
          exact and_congr Iff.rfl ⟨fun z _ _ => (lo_sym hi (hx a c2.2)).mpr z, fun z => (lo_sym hi (hx a c2.2)).mp (z hb (Or.inr c2))⟩
        · have nn : ¬ (a = f ∧ o < f ∨ o = f ∧ a < f) := fun z => z.elim c1 c2
          have tr : hasB y (nI i) ↔ hasB y (nI i) ∧ (¬ ((σ 18 5 >>> (nI j &&& 31)) &&& 1) = 0 → (a = f ∧ o < f ∨ o = f ∧ a < f) → hasB (loF (σ 4 j) (σ 8 j) 0 (b1 (cv_up x f i o))) (nI (cv_up x f i a))) := ⟨fun z => ⟨z, fun _ q => absurd q nn⟩, fun z => z.1⟩
          by_cases c3 : o = f
          · rw [if_neg (fun z => z (io.mpr c3)), if_pos (la.mpr (by omega))]
            exact tr
          · rw [if_pos (fun z => c3 (io.mp z))]
            exact tr
    · rw [if_pos k]
      exact ⟨fun z => ⟨z, fun _ q => absurd q.1 k⟩, fun z => z.1⟩
theorem fi_bit {σ : Mem} {f nF nL i : Nat} {x : Nat → Nat} (h : LV σ nF nL) (hf : f < nF) (hx : cv_Ok f x) (h20 : ∀ k : Nat, k < f → σ 20 k = nI (x k)) (hi : i < 8) : ∀ (d j : Nat) (y : Int32), j + d = nL →
    (hasB (fiF σ f d j y) (nI i) ↔ hasB y (nI i) ∧ ∀ k : Nat, j ≤ k → k < nL → ¬ ((σ 18 5 >>> (nI k &&& 31)) &&& 1) = 0 → cv_At σ f k → cv_HL σ k (cv_up x f i)) := by
  intro d
  induction d with
  | zero =>
    intro j y hj
    show hasB y (nI i) ↔ _
    exact ⟨fun z => ⟨z, fun k h1 h2 => by omega⟩, fun z => z.1⟩
  | succ d ih =>
    intro j y hj
    unfold fiF
    rw [ih (j + 1) _ (by omega), fi_one h hf hx h20 hi (by omega)]
    constructor
    · rintro ⟨⟨z1, z2⟩, z3⟩
      refine ⟨z1, fun k h1 h2 => ?_⟩
      rcases Nat.eq_or_lt_of_le h1 with e | e
      · subst e; exact z2
      · exact z3 k e h2
    · rintro ⟨z1, z2⟩
      exact ⟨⟨z1, z2 j (Nat.le_refl _) (by omega)⟩, fun k h1 h2 => z2 k (by omega) h2⟩
def cv_PF (σ : Mem) (set : Int32) (nL : Nat) (fr : Mw) (f : Nat) (x : Nat → Nat) : Prop := (∀ i : Nat, i < f → hasB (fr i) (nI (x i))) ∧ ∀ k : Nat, k < nL → ¬ ((set >>> (nI k &&& 31)) &&& 1) = 0 → (σ 4 k = 3 ∨ σ 4 k = 4) → (σ 6 k).toNatClampNeg < f → (σ 7 k).toNatClampNeg < f → cv_HL σ k x
/-- what fits goes on; what goes on fits -/
theorem fi_ok {σ : Mem} {set : Int32} {fr : Mw} {f nF nL i : Nat} {x : Nat → Nat} (h : LV σ nF nL) (hf : f < nF) (hx : cv_Ok f x) (h20 : ∀ k : Nat, k < f → σ 20 k = nI (x k)) (hi : i < 8) (e5 : σ 18 5 = set) (e19 : σ 19 f = fr f) (hp : cv_PF σ set nL fr f x) (hb : hasB (fiF σ f nL 0 (σ 19 f)) (nI i)) : cv_PF σ set nL fr (f + 1) (cv_up x f i) := by
  obtain ⟨z1, z2⟩ := (fi_bit h hf hx h20 hi nL 0 _ (Nat.zero_add _)).mp hb
  rw [e5] at z2
  rw [e19] at z1
  refine ⟨fun j hj => ?_, fun k hk hb k2 ha ho => ?_⟩
  · by_cases e : j = f
    · subst e; rw [up_at]; exact z1
    · rw [up_lo e]; exact hp.1 j (by omega)
  · have ne := lao_ne h hk k2
    by_cases q : (σ 6 k).toNatClampNeg < f ∧ (σ 7 k).toNatClampNeg < f
    · exact HL_cg (hp.2 k hk hb k2 q.1 q.2) (up_lo (by omega)).symm (fun _ => (up_lo (by omega)).symm)
    · exact z2 k (Nat.zero_le _) hk hb ⟨k2, by omega⟩
theorem fi_no {σ : Mem} {set : Int32} {fr : Mw} {f nF nL i : Nat} {x y : Nat → Nat} (h : LV σ nF nL) (hf : f < nF) (hx : cv_Ok f x) (h20 : ∀ k : Nat, k < f → σ 20 k = nI (x k)) (hi : i < 8) (e5 : σ 18 5 = set) (e19 : σ 19 f = fr f) (he : cv_Ex (f + 1) (cv_up x f i) y) (hy : cv_Hd σ set nL y) (hfr : hasB (fr f) (nI (y f))) : hasB (fiF σ f nL 0 (σ 19 f)) (nI i) := by
  refine (fi_bit h hf hx h20 hi nL 0 _ (Nat.zero_add _)).mpr ⟨?_, fun k _ hk hb ha => ?_⟩
  · rw [e19, ← (ex_up he).2]; exact hfr
  · rw [e5] at hb
    exact HL_cg (hy k hk hb) (he _ (by rcases ha.2 with q | q <;> omega)) (fun _ => he _ (by rcases ha.2 with q | q <;> omega))
def cv_Rp (nF : Nat) (σ : Mem) (s : Sp) : Prop := (s.1 = 1000 ∧ σ 18 4 = -1 ∧ ∀ f : Nat, f < 5 → σ 21 f = -1) ∨ (s.1 < 1000 ∧ σ 18 4 = nI s.1 ∧ (∀ f : Nat, f < nF → σ 21 f = nI (s.2 f)) ∧ ∀ f : Nat, nF ≤ f → f < 5 → σ 21 f = -1)
def cv_Cx (σ0 σ : Mem) : Prop := (∀ p : Nat, chK p → σ p = σ0 p) ∧ σ 18 5 = σ0 18 5
theorem m1_nI {k : Nat} (h : k < 1000) : ¬ nI k = -1 := fun z => by
  have := congrArg Int32.toInt z
  rw [nI_toInt (by omega)] at this
  have e : (-1 : Int32).toInt = -1 := by decide
  omega
theorem rp_lt {nF c : Nat} {σ : Mem} {s : Sp} (h : cv_Rp nF σ s) (hc : c < 1000) : (¬ σ 18 4 = -1 → ¬ nI c < σ 18 4 → s.1 ≤ c) ∧ (σ 18 4 = -1 → c < s.1) ∧ (nI c < σ 18 4 → c < s.1) := by
  rcases h with ⟨e1, e2, -⟩ | ⟨e1, e2, -⟩
  · exact ⟨fun z => absurd e2 z, fun _ => by omega, fun _ => by omega⟩
  · have k : nI c < nI s.1 ↔ c < s.1 := lt_nI (by omega) (by omega)
    rw [e2]
    exact ⟨fun _ z => Nat.le_of_not_lt (fun q => z (k.mpr q)), fun z => absurd z (m1_nI e1), fun z => k.mp z⟩
theorem ch_bf {σ0 : Mem} {set : Int32} {nF nL : Nat} {fr : Mw} {P : (Nat → Nat) → Prop} (h : LV σ0 nF nL) (e5 : σ0 18 5 = set) (hw : ∀ f : Nat, f < nF → vp_in (σ0 3 f) 10) (e19 : ∀ f : Nat, f < nF → σ0 19 f = fr f)
    (hl : ∀ x : Nat → Nat, cv_PF σ0 set nL fr nF x → cv_Ok nF x → P x) (hc : ∀ y : Nat → Nat, P y → cv_Ok nF y → cv_Hd σ0 set nL y ∧ ∀ f : Nat, f < nF → hasB (fr f) (nI (y f))) :
    ∀ (n f d : Nat) (x : Nat → Nat) (s : Sp) (σ : Mem), f + d = nF → nF < f + n → cv_Cx σ0 σ → cv_Ok f x → (∀ k : Nat, k < f → σ 20 k = nI (x k)) → cv_PF σ0 set nL fr f x → cv_Rp nF σ s →
      cv_Rp nF (chF nF nL n f (nI (cv_cs (fun f => (σ0 3 f).toNatClampNeg) f x)) σ) (cv_bf P (fun f => (σ0 3 f).toNatClampNeg) nF d f x s) ∧ cv_Cx σ0 (chF nF nL n f (nI (cv_cs (fun f => (σ0 3 f).toNatClampNeg) f x)) σ) ∧ ∀ k : Nat, k < f → chF nF nL n f (nI (cv_cs (fun f => (σ0 3 f).toNatClampNeg) f x)) σ 20 k = σ 20 k := by
  have h5 := h.1
  generalize hW : (fun f : Nat => (σ0 3 f).toNatClampNeg) = w
  have ew : ∀ f : Nat, f < nF → σ0 3 f = nI (w f) ∧ w f ≤ 9 := fun f hf => by
    obtain ⟨c, hc, e⟩ := vin_ex (by decide) (hw f hf)
    have : w f = c := by rw [← hW]; show (σ0 3 f).toNatClampNeg = c; rw [e]; exact nI_clamp (by omega)
    rw [this]
    exact ⟨e, by omega⟩
  have c315 : ∀ (f : Nat) (x : Nat → Nat), f ≤ nF → cv_Ok f x → cv_cs w f x < 1000 := fun f x hf hx => by
    have := cs_315 (w := w) (x := x) f (fun i hi => ⟨hx i hi, (ew i (by omega)).2⟩)
    omega
  intro n
  induction n with
  | zero => intro f d x s σ h1 h2; omega
  | succ n ih =>
    intro f d x s σ hf hn hC hx h20 hp hr
    have e10 : ∀ p : Nat, p ≤ 10 → σ p = σ0 p := fun p hp => hC.1 p ⟨by omega, by omega, by omega⟩
    have hL : LV σ nF nL := h.sm e10
    have cl := c315 f x (by omega) hx
    obtain ⟨r1, r2, r3⟩ := rp_lt hr cl
    have G : cv_cs w f x < s.1 → cv_Rp nF (chG (chF nF nL n) nF nL f (nI (cv_cs w f x)) σ) (cv_bf P w nF d f x s) ∧ cv_Cx σ0 (chG (chF nF nL n) nF nL f (nI (cv_cs w f x)) σ) ∧ ∀ k : Nat, k < f → chG (chF nF nL n) nF nL f (nI (cv_cs w f x)) σ 20 k = σ 20 k := fun hlt => by
      by_cases q : f < nF
      · obtain ⟨d1, rfl⟩ : ∃ d1 : Nat, d = d1 + 1 := ⟨d - 1, by omega⟩
        have p1 : cv_PF σ set nL fr f x := ⟨hp.1, fun k hk hb k2 ha ho => (HL_sm e10).mpr (hp.2 k hk hb (by rw [← e10 4 (by decide)]; exact k2) (by rw [← e10 6 (by decide)]; exact ha) (by rw [← e10 7 (by decide)]; exact ho))⟩
        have f5 : σ 18 5 = set := by rw [hC.2, e5]
        have f19 : σ 19 f = fr f := by rw [hC.1 19 ⟨by decide, by decide, by decide⟩]; exact e19 f q
        have fit1 := fun (i : Nat) (hi : i < 8) => fi_ok (i := i) hL q hx h20 hi f5 f19 p1
        have fit2 := fun (i : Nat) (hi : i < 8) (y : Nat → Nat) => fi_no (i := i) (y := y) hL q hx h20 hi f5 f19
        unfold chG
        rw [if_pos q]
        generalize fiF σ f nL 0 (σ 19 f) = fit at fit1 fit2
        have key : ∀ (k i : Nat) (s : Sp) (σ1 : Mem), i + k = 8 → cv_Cx σ0 σ1 → (∀ j : Nat, j < f → σ1 20 j = nI (x j)) → cv_Rp nF σ1 s →
            cv_Rp nF (chN (chF nF nL n) f (nI (cv_cs w f x)) fit k i σ1) (cv_lp (fun i s => cv_bf P w nF d1 (f + 1) (cv_up x f i) s) k i s) ∧ cv_Cx σ0 (chN (chF nF nL n) f (nI (cv_cs w f x)) fit k i σ1) ∧ ∀ j : Nat, j < f → chN (chF nF nL n) f (nI (cv_cs w f x)) fit k i σ1 20 j = nI (x j) := by
          intro k
          induction k with
          | zero => intro i s σ1 _ a b c; exact ⟨c, a, b⟩
          | succ k ih2 =>
            intro i s σ1 hi a b c
            unfold chN cv_lp
            by_cases hb : ((fit >>> (nI i &&& 31)) &&& 1) = 0
            · rw [if_pos hb]
              have st : cv_bf P w nF d1 (f + 1) (cv_up x f i) s = s := bf_stay d1 (f + 1) _ s (by omega) (ok_up hx (by omega)) (fun y hy ho hP => by
                obtain ⟨y1, y2⟩ := hc y hP ho
                exact absurd hb (fit2 i (by omega) y hy (fun j hj hb => (HL_sm e10).mpr (y1 j hj hb)) (y2 f q)))
              show cv_Rp nF _ (cv_lp _ k (i + 1) (cv_bf P w nF d1 (f + 1) (cv_up x f i) s)) ∧ _
              rw [st]
              exact ih2 (i + 1) s σ1 (by omega) a b c
            · rw [if_neg hb]
              have e3 : σ1 3 f = nI (w f) := by rw [a.1 3 ⟨by decide, by decide, by decide⟩]; exact (ew f q).1
              have ec : nI (cv_cs w f x) + σ1 3 f * nI i = nI (cv_cs w (f + 1) (cv_up x f i)) := by rw [e3, nI_mul, nI_add, cs_up]
              rw [ec]
              have p2 := fit1 i (by omega) hb
              have p3 : cv_PF σ0 set nL fr (f + 1) (cv_up x f i) := ⟨p2.1, fun k hk hb k2 ha ho => (HL_sm e10).mp (p2.2 k hk hb (by rw [e10 4 (by decide)]; exact k2) (by rw [e10 6 (by decide)]; exact ha) (by rw [e10 7 (by decide)]; exact ho))⟩
              obtain ⟨i1, i2, i3⟩ := ih (f + 1) d1 (cv_up x f i) s (mst σ1 20 f (nI i)) (by omega) (by omega) ⟨fun p hp => by rw [mst_ne hp.2.1]; exact a.1 p hp, by rw [mst_ne (by decide)]; exact a.2⟩ (ok_up hx (by omega)) (fun j hj => by
                  rw [mst_eq]
                  by_cases e : j = f
                  · rw [e, upd_eq, up_at]
                  · rw [upd_ne e, up_lo e]; exact b j (by omega)) p3 (by
                  unfold cv_Rp
                  rw [mst_ne (by decide), mst_ne (by decide)]
                  exact c)
              exact ih2 (i + 1) _ _ (by omega) i2 (fun j hj => by rw [i3 j (by omega), mst_eq, upd_ne (by omega)]; exact b j hj) i1
        obtain ⟨k1, k2, k3⟩ := key 8 0 s σ rfl hC h20 hr
        exact ⟨k1, k2, fun k hk => by rw [k3 k hk, h20 k hk]⟩
      · have ef : f = nF := by omega
        subst ef
        have ed : d = 0 := by omega
        subst ed
        unfold chG cv_bf
        rw [if_neg (Nat.lt_irrefl _), if_pos ⟨hl x hp hx, hlt⟩]
        refine ⟨Or.inr ⟨cl, ?_, fun i hi => ?_, fun i h1 h2 => ?_⟩, ⟨fun p hp => by rw [mup_ne hp.2.2, mst_ne hp.1]; exact hC.1 p hp, ?_⟩, fun k hk => ?_⟩
        · rw [mup_ne (by decide), mst_eq, upd_eq]
        · rw [mup_eq]
          unfold va_cpy
          rw [if_pos ⟨Nat.zero_le _, by omega⟩, show 0 + (i - 0) = i by omega]
          exact h20 i hi
        · rw [mup_eq]
          unfold va_cpy
          rw [if_neg (by omega)]
          rcases hr with ⟨-, -, z⟩ | ⟨-, -, -, z⟩
          · exact z i h2
          · exact z i h1 h2
        · rw [mup_ne (by decide), mst_eq, upd_ne (by decide)]; exact hC.2
        · rw [mup_ne (by decide), mst_ne (by decide)]
    unfold chF
    by_cases q1 : σ 18 4 = -1
    · rw [if_pos q1]; exact G (r2 q1)
    · rw [if_neg q1]
      by_cases q2 : nI (cv_cs w f x) < σ 18 4
      · rw [if_pos q2]; exact G (r3 q2)
      · rw [if_neg q2]
        have le := r1 q1 q2
        have st : cv_bf P w nF d f x s = s := bf_stay d f x s hf hx (fun y hy _ _ => by
          have e1 : cv_cs w f y = cv_cs w f x := cs_eq f (fun i hi => hy i hi)
          have e2 := cs_le (w := w) (x := y) (f := f) d
          rw [hf] at e2
          omega)
        rw [st]
        exact ⟨hr, hC, fun _ _ => rfl⟩
