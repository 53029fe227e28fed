/-! THE CLASS: choosing -/
def fiS (σ : Mem) (f j : Nat) (x : Int32) : Int32 :=
  if ((σ 18 5 >>> (nI j &&& 31)) &&& 1) = 0 then x
  else if ¬ (σ 4 j = 3 ∨ σ 4 j = 4) then x
  else if σ 6 j = nI f ∧ ¬ nI f ≤ σ 7 j then x &&& loF (σ 4 j) (σ 8 j) 0 ((1 : Int32) <<< (σ 20 (σ 7 j).toNatClampNeg &&& 31))
  else if ¬ σ 7 j = nI f then x else if nI f ≤ σ 6 j then x else x &&& loF (σ 4 j) (σ 8 j) 1 ((1 : Int32) <<< (σ 20 (σ 6 j).toNatClampNeg &&& 31))
def fiF (σ : Mem) (f : Nat) : Nat → Nat → Int32 → Int32
  | 0, _, x => x
  | d + 1, j, x => fiF σ f d (j + 1) (fiS σ f j x)
theorem s_fittingAt {post : Int32 → Mem → Prop} {σ : Mem} {nF nL f : Nat} (h : LV σ nF nL) (hf : f < 5) (hp : post (fiF σ f nL 0 (σ 19 f)) σ) : q_X0_fittingAt post (nI f) σ := by
  have h30 := h.2.1
  have key : ∀ (d j : Nat) (x : Int32), j + d = nL → post (fiF σ f d j x) σ → lp_4 (q_X0_fittingAt_9 post (q_X0_fittingAt_139 post)) (d + 1) (nI f) x (nI j) σ := by
    intro d
    induction d with
    | zero =>
      intro j x hj hp
      show q_X0_fittingAt_9 _ _ _ _ _ _ _
      unfold q_X0_fittingAt_9 q_X0_fittingAt_139
      rw [h.nl]
      exact ⟨fun _ => hp, fun q => absurd (nI_le (by omega) (by omega)) q⟩
    | succ d ih =>
      intro j x hj hp
      show q_X0_fittingAt_9 _ _ _ _ _ _ _
      have e : (nI j).toNatClampNeg = j := nI_clamp (by omega)
      have hv : vp_in (nI j) 30 := vin_j (by omega) (by decide)
      have hj2 : j < nL := by omega
      have nx : ∀ y : Int32, fiS σ f j x = y → q_X0_fittingAt_133 post (q_X0_fittingAt_139 post) (lp_4 (q_X0_fittingAt_9 post (q_X0_fittingAt_139 post)) (d + 1)) (nI f) y (nI j) σ := fun y hy => by
        unfold q_X0_fittingAt_133
        rintro _ rfl
        rw [nI_1]
        refine ih (j + 1) y (by omega) ?_
        unfold fiF at hp
        rw [hy] at hp
        exact hp
      unfold q_X0_fittingAt_9
      rw [h.nl]
      refine ⟨fun q => absurd ((nI_leI (by omega) (by omega)).mp q) (by omega), fun _ => s_contains (fun r hr => ⟨fun z => nx x ?_, fun z => s_isOfTwo (by omega) (fun r2 hr2 => ⟨fun z2 => nx x ?_, fun z2 => ⟨hv, ?_⟩⟩)⟩)⟩
      · unfold fiS
        rw [if_pos (Classical.byContradiction (hr.f z))]
      · unfold fiS
        rw [if_neg (hr.t z), if_pos (hr2.f z2)]
      · have hb := hr.t z
        have hk := hr2.t z2
        have hs := h.two hj2 hk
        have ha := h.ab hj2
        rw [e]
        rintro _ rfl
        refine ⟨hv, ?_⟩
        rintro _ rfl
        have c100 : ¬ (σ 6 j = nI f ∧ ¬ nI f ≤ σ 7 j) → q_X0_fittingAt_100 post (q_X0_fittingAt_139 post) (lp_4 (q_X0_fittingAt_9 post (q_X0_fittingAt_139 post)) (d + 1)) (nI f) x (nI j) (σ 6 j) (σ 7 j) σ := fun hn => by
          unfold q_X0_fittingAt_100
          refine ⟨fun q => nx x ?_, fun q => ⟨fun q2 => nx x ?_, fun q2 => ⟨ha, s_letsByOther (by omega) ?_⟩⟩⟩
          · unfold fiS; rw [if_neg hb, if_neg (fun w => w hk), if_neg hn, if_pos q]
          · unfold fiS; rw [if_neg hb, if_neg (fun w => w hk), if_neg hn, if_neg (fun w => w q), if_pos q2]
          · rintro _ rfl
            refine nx _ ?_
            unfold fiS; rw [if_neg hb, if_neg (fun w => w hk), if_neg hn, if_neg (fun w => w q), if_neg q2]
        refine ⟨fun q => c100 (fun w => q w.1), fun q => ⟨fun q2 => c100 (fun w => w.2 q2), fun q2 => ⟨hs, s_letsByOther (by omega) ?_⟩⟩⟩
        rintro _ rfl
        refine nx _ ?_
        unfold fiS; rw [if_neg hb, if_neg (fun w => w hk), if_pos ⟨q, q2⟩]
  unfold q_X0_fittingAt
  have e : (nI f).toNatClampNeg = f := nI_clamp (by omega)
  rw [e]
  refine ⟨vin_j hf (by decide), ?_⟩
  rintro _ rfl
  exact ⟨nL + 1, key nL 0 _ (Nat.zero_add nL) hp⟩
def chN (rec : Nat → Int32 → Mem → Mem) (f : Nat) (cost fit : Int32) : Nat → Nat → Mem → Mem
  | 0, _, σ => σ
  | d + 1, i, σ => chN rec f cost fit d (i + 1) (if ((fit >>> (nI i &&& 31)) &&& 1) = 0 then σ else rec (f + 1) (cost + (σ 3 f * nI i)) (mst σ 20 f (nI i)))
def chG (rec : Nat → Int32 → Mem → Mem) (nF nL f : Nat) (cost : Int32) (σ : Mem) : Mem :=
  if f < nF then chN rec f cost (fiF σ f nL 0 (σ 19 f)) 8 0 σ else mup (mst σ 18 4 cost) 21 (va_cpy (σ 20) (σ 21) 0 0 nF)
def chF (nF nL : Nat) : Nat → Nat → Int32 → Mem → Mem
  | 0, _, _, σ => σ
  | n + 1, f, cost, σ => if σ 18 4 = -1 then chG (chF nF nL n) nF nL f cost σ else if cost < σ 18 4 then chG (chF nF nL n) nF nL f cost σ else σ
/-- what choosing leaves as it was -/
def chK (p : Nat) : Prop := p ≠ 18 ∧ p ≠ 20 ∧ p ≠ 21
theorem chN_fr {rec : Nat → Int32 → Mem → Mem} {p : Nat} (hp : chK p) (hr : ∀ (f : Nat) (c : Int32) (σ : Mem), rec f c σ p = σ p) (f : Nat) (cost fit : Int32) : ∀ (d i : Nat) (σ : Mem), chN rec f cost fit d i σ p = σ p := by
  intro d
  induction d with
  | zero => intro i σ; rfl
  | succ d ih =>
    intro i σ
    unfold chN
    rw [ih]
    split
    · rfl
    · rw [hr, mst_ne hp.2.1]
theorem chF_fr (nF nL : Nat) {p : Nat} (hp : chK p) : ∀ (n f : Nat) (c : Int32) (σ : Mem), chF nF nL n f c σ p = σ p := by
  intro n
  induction n with
  | zero => intro f c σ; rfl
  | succ n ih =>
    intro f c σ
    have g : chG (chF nF nL n) nF nL f c σ p = σ p := by
      unfold chG
      split
      · exact chN_fr hp ih f c _ 8 0 σ
      · rw [mup_ne hp.2.2, mst_ne hp.1]
    unfold chF
    split
    · exact g
    · split
      · exact g
      · rfl
theorem s_chooseFrom {nF nL : Nat} : ∀ (n f : Nat) (cost : Int32) (σ : Mem) (post : Mem → Prop), LV σ nF nL → f ≤ nF → nF < f + n → post (chF nF nL n f cost σ) → q_X0_chooseFrom n post (nI f) cost σ := by
  intro n
  induction n with
  | zero => intro f cost σ post h h1 h2; omega
  | succ n ih =>
    intro f cost σ post h h1 h2 hp
    have h5 := h.1
    have e : (nI f).toNatClampNeg = f := nI_clamp (by omega)
    have g : post (chG (chF nF nL n) nF nL f cost σ) → q_X0_chooseFrom_17 (q_X0_chooseFrom n) post (nI f) cost σ := fun hp => by
      unfold q_X0_chooseFrom_17
      rw [h.nf]
      unfold chG at hp
      refine ⟨fun q => ?_, fun q => ?_⟩
      · have hf : f < nF := by
          rw [Int32.lt_iff_toInt_lt, nI_toInt (by omega), nI_toInt (by omega)] at q
          omega
        rw [if_pos hf] at hp
        refine s_fittingAt h (by omega) ?_
        generalize fiF σ f nL 0 (σ 19 f) = fit at hp ⊢
        have key : ∀ (d i : Nat) (τ : Mem), i + d = 8 → LV τ nF nL → post (chN (chF nF nL n) f cost fit d i τ) → lp_5 (q_X0_chooseFrom_63 (q_X0_chooseFrom n) post (q_X0_chooseFrom_114 (q_X0_chooseFrom n) post)) (d + 1) (nI f) cost fit (nI i) τ := by
          intro d
          induction d with
          | zero =>
            intro i τ hi hL hp
            show q_X0_chooseFrom_63 _ _ _ _ _ _ _ _ _
            unfold q_X0_chooseFrom_63 q_X0_chooseFrom_114
            rw [show i = 8 by omega]
            exact ⟨fun _ => hp, fun z => absurd (by decide) z⟩
          | succ d ih2 =>
            intro i τ hi hL hp
            show q_X0_chooseFrom_63 _ _ _ _ _ _ _ _ _
            unfold q_X0_chooseFrom_63 q_X0_chooseFrom_108
            unfold chN at hp
            refine ⟨fun z => absurd ((nI_leI (a := 8) (b := i) (by decide) (by omega)).mp z) (by omega), fun _ => s_contains (fun r hr => ⟨fun z => ?_, fun z => ⟨vin_j (by omega) (by decide), ?_⟩⟩)⟩
            · rintro _ rfl
              rw [nI_1]
              rw [if_pos (Classical.byContradiction (hr.f z))] at hp
              exact ih2 (i + 1) τ (by omega) hL hp
            · rintro _ rfl
              rw [if_neg (hr.t z)] at hp
              rw [e, nI_1 f, mst_ne (show (3 : Nat) ≠ 20 by decide)]
              refine ⟨vin_j (by omega) (by decide), ih (f + 1) _ _ _ (hL.sm (sm_mst (pa := 20) (by decide))) hf (by omega) ?_⟩
              rintro _ rfl
              rw [nI_1]
              refine ih2 (i + 1) _ (by omega) (hL.sm (fun p hp9 => ?_)) hp
              rw [chF_fr nF nL ⟨by omega, by omega, by omega⟩, mst_ne (by omega)]
        exact ⟨9, key 8 0 σ rfl h hp⟩
      · have hf : ¬ f < nF := fun z => q (by rw [Int32.lt_iff_toInt_lt, nI_toInt (by omega), nI_toInt (by omega)]; omega)
        rw [if_neg hf] at hp
        rintro _ rfl
        have e9 : (nI nF).toNatClampNeg = nF := nI_clamp (by omega)
        rw [mst_ne (show (1 : Nat) ≠ 18 by decide), h.nf, e9, mst_ne (show (20 : Nat) ≠ 18 by decide), mst_ne (show (21 : Nat) ≠ 18 by decide)]
        refine ⟨nI_pos0 (by omega), (by show 0 + nF ≤ 5; omega), (by show 0 + nF ≤ 5; omega), ?_⟩
        rintro _ rfl
        exact hp
    show q_X0_chooseFrom_b _ _ _ _ _
    unfold q_X0_chooseFrom_b
    unfold chF at hp
    refine ⟨fun q => g (by rwa [if_pos q] at hp), fun q => ⟨fun q2 => g (by rwa [if_neg q, if_pos q2] at hp), fun q2 => by rwa [if_neg q, if_neg q2] at hp⟩⟩
def coN (rec : Nat → Mem → Mem) (f : Nat) (fit : Int32) : Nat → Nat → Mem → Mem
  | 0, _, σ => σ
  | d + 1, i, σ => if 500 ≤ σ 18 6 then σ else coN rec f fit d (i + 1) (if ((fit >>> (nI i &&& 31)) &&& 1) = 0 then σ else rec (f + 1) (mst σ 20 f (nI i)))
def coF (nF nL : Nat) : Nat → Nat → Mem → Mem
  | 0, _, σ => σ
  | n + 1, f, σ => if f < nF then coN (coF nF nL n) f (fiF σ f nL 0 (σ 19 f)) 8 0 σ else mst σ 18 6 (σ 18 6 + 1)
theorem coN_fr {rec : Nat → Mem → Mem} {p : Nat} (hp : chK p) (hr : ∀ (f : Nat) (σ : Mem), rec f σ p = σ p) (f : Nat) (fit : Int32) : ∀ (d i : Nat) (σ : Mem), coN rec f fit d i σ p = σ p := by
  intro d
  induction d with
  | zero => intro i σ; rfl
  | succ d ih =>
    intro i σ
    unfold coN
    split
    · rfl
    · rw [ih]
      split
      · rfl
      · rw [hr, mst_ne hp.2.1]
theorem coF_fr (nF nL : Nat) {p : Nat} (hp : chK p) : ∀ (n f : Nat) (σ : Mem), coF nF nL n f σ p = σ p := by
  intro n
  induction n with
  | zero => intro f σ; rfl
  | succ n ih =>
    intro f σ
    unfold coF
    split
    · exact coN_fr hp ih f _ 8 0 σ
    · exact mst_ne hp.1
theorem s_countFrom {nF nL : Nat} : ∀ (n f : Nat) (σ : Mem) (post : Mem → Prop), LV σ nF nL → f ≤ nF → nF < f + n → post (coF nF nL n f σ) → q_X0_countFrom n post (nI f) σ := by
  intro n
  induction n with
  | zero => intro f σ post h h1 h2; omega
  | succ n ih =>
    intro f σ post h h1 h2 hp
    have h5 := h.1
    have e : (nI f).toNatClampNeg = f := nI_clamp (by omega)
    show q_X0_countFrom_b _ _ _ _
    unfold q_X0_countFrom_b
    rw [h.nf]
    unfold coF at hp
    refine ⟨fun q => ?_, fun q => ?_⟩
    · have hf : f < nF := by
        rw [Int32.lt_iff_toInt_lt, nI_toInt (by omega), nI_toInt (by omega)] at q
        omega
      rw [if_pos hf] at hp
      refine s_fittingAt h (by omega) ?_
      generalize fiF σ f nL 0 (σ 19 f) = fit at hp ⊢
      have key : ∀ (d i : Nat) (τ : Mem), i + d = 8 → LV τ nF nL → post (coN (coF nF nL n) f fit d i τ) → lp_4 (q_X0_countFrom_30 (q_X0_countFrom n) post (q_X0_countFrom_74 (q_X0_countFrom n) post)) (d + 1) (nI f) fit (nI i) τ := by
        intro d
        induction d with
        | zero =>
          intro i τ hi hL hp
          show q_X0_countFrom_30 _ _ _ _ _ _ _ _
          unfold q_X0_countFrom_30 q_X0_countFrom_74
          rw [show i = 8 by omega]
          exact ⟨fun _ => hp, fun z => absurd (by decide) z⟩
        | succ d ih2 =>
          intro i τ hi hL hp
          show q_X0_countFrom_30 _ _ _ _ _ _ _ _
          unfold q_X0_countFrom_30 q_X0_countFrom_68 q_X0_countFrom_74
          unfold coN at hp
          refine ⟨fun z => absurd ((nI_leI (a := 8) (b := i) (by decide) (by omega)).mp z) (by omega), fun _ => ⟨fun z => by rwa [if_pos z] at hp, fun z0 => s_contains (fun r hr => ⟨fun z => ?_, fun z => ⟨vin_j (by omega) (by decide), ?_⟩⟩)⟩⟩
          · rintro _ rfl
            rw [nI_1]
            rw [if_neg z0, if_pos (Classical.byContradiction (hr.f z))] at hp
            exact ih2 (i + 1) τ (by omega) hL hp
          · rintro _ rfl
            rw [if_neg z0, if_neg (hr.t z)] at hp
            rw [e, nI_1 f]
            refine ih (f + 1) _ _ (hL.sm (sm_mst (pa := 20) (by decide))) hf (by omega) ?_
            rintro _ rfl
            rw [nI_1]
            refine ih2 (i + 1) _ (by omega) (hL.sm (fun p hp9 => ?_)) hp
            rw [coF_fr nF nL ⟨by omega, by omega, by omega⟩, mst_ne (by omega)]
      exact ⟨9, key 8 0 σ rfl h hp⟩
    · have hf : ¬ f < nF := fun z => q (by rw [Int32.lt_iff_toInt_lt, nI_toInt (by omega), nI_toInt (by omega)]; omega)
      rw [if_neg hf] at hp
      rintro _ rfl
      exact hp
def fb0 (σ : Mem) (p2 : Int32) : Mem :=
  mup (mst (mst (mup σ 19 (cp5 (σ 13) (σ 19))) 18 5 p2) 18 4 (-1)) 21 (fl_row 5 (-1) ((mst (mst (mup σ 19 (cp5 (σ 13) (σ 19))) 18 5 p2) 18 4 (-1)) 21))
def fbF (nF nL : Nat) (σ : Mem) (p2 : Int32) : Mem := if nF = 0 then fb0 σ p2 else chF nF nL 6 0 0 (fb0 σ p2)
theorem fb0_fr {p : Nat} (hp : chK p) (h9 : p ≠ 19) (σ : Mem) (p2 : Int32) : fb0 σ p2 p = σ p := by
  unfold fb0
  rw [mup_ne hp.2.2, mst_ne hp.1, mst_ne hp.1, mup_ne h9]
theorem fbF_fr {nF nL p : Nat} (hp : chK p) (h9 : p ≠ 19) (σ : Mem) (p2 : Int32) : fbF nF nL σ p2 p = σ p := by
  unfold fbF
  split
  · exact fb0_fr hp h9 σ p2
  · rw [chF_fr nF nL hp, fb0_fr hp h9]
theorem s_findBest {post : Mem → Prop} {σ : Mem} {nF nL : Nat} {p2 : Int32} (h : LV σ nF nL) (hp : post (fbF nF nL σ p2)) : q_X0_findBest post p2 σ := by
  have h5 := h.1
  unfold q_X0_findBest q_X0_findBest_48
  rw [cpy5]
  rintro _ rfl _ rfl _ rfl _ rfl
  have hL : LV (fb0 σ p2) nF nL := h.sm (fun p hp9 => fb0_fr ⟨by omega, by omega, by omega⟩ (by omega) σ p2)
  change (fb0 σ p2 1 9 ≤ 0 → post (fb0 σ p2)) ∧ (¬ fb0 σ p2 1 9 ≤ 0 → q_X0_chooseFrom 6 (fun σ7 => post σ7) 0 0 (fb0 σ p2))
  rw [hL.nf]
  unfold fbF at hp
  refine ⟨fun q => ?_, fun q => ?_⟩
  · have : nF ≤ 0 := (nI_leI (a := nF) (b := 0) (by omega) (by decide)).mp q
    rwa [if_pos (by omega)] at hp
  · have : ¬ nF = 0 := fun z => q (by rw [z]; decide)
    rw [if_neg this] at hp
    exact s_chooseFrom 6 0 0 _ _ hL (Nat.zero_le _) (by omega) hp
/-- how many choices have a number -/
def ctM (σ : Mem) (f : Nat) (p3 : Int32) : Mem := mst (mst (mup σ 19 (cp5 (σ 13) (σ 19))) 19 f ((cp5 (σ 13) (σ 19)) f &&& ((1 : Int32) <<< (p3 &&& 31)))) 18 6 0
def ctR (nF nL : Nat) (σ : Mem) (f : Nat) (p3 : Int32) : Mem := coF nF nL 6 0 (ctM σ f p3)
theorem ctR_fr {nF nL p : Nat} (hp : chK p) (h9 : p ≠ 19) (σ : Mem) (f : Nat) (p3 : Int32) : ctR nF nL σ f p3 p = σ p := by
  unfold ctR ctM
  rw [coF_fr nF nL hp, mst_ne hp.1, mst_ne h9, mup_ne h9]
theorem s_count {post : Int32 → Mem → Prop} {σ : Mem} {nF nL f : Nat} {p3 : Int32} (h : LV σ nF nL) (hf : f < 5) (hp : post (ctR nF nL σ f p3 18 6) (ctR nF nL σ f p3)) : q_X0_count post (nI f) p3 σ := by
  have h5 := h.1
  have e : (nI f).toNatClampNeg = f := nI_clamp (by omega)
  unfold q_X0_count
  rw [cpy5, e]
  rintro _ rfl
  refine ⟨vin_j hf (by decide), vin_j hf (by decide), ?_⟩
  rw [mup_eq]
  rintro _ rfl _ rfl
  refine s_countFrom 6 0 (ctM σ f p3) _ (h.sm (fun p hp9 => ?_)) (Nat.zero_le _) (by omega) hp
  unfold ctM
  rw [mst_ne (by omega), mst_ne (by omega), mup_ne (by omega)]
