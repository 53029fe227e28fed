/-! THE REFERENCE: defaults, and what follows: that they end, and change only the rows of sets -/
def SE (τ ρ : Mem) : Prop := ∀ p : Nat, p ≠ 7 → ρ p = τ p
theorem SE.rf {τ : Mem} : SE τ τ := fun _ _ => rfl
theorem SE.trans {τ ρ χ : Mem} (h : SE τ ρ) (h2 : SE ρ χ) : SE τ χ := fun p hp => (h2 p hp).trans (h p hp)
theorem SE.te {τ ρ : Mem} (h : SE τ ρ) : TE τ ρ := ⟨by rw [h 0 (by decide)], fun p hp => h p (by omega)⟩
theorem SE.etm {n : Nat} {τ ρ : Mem} (h : SE τ ρ) : tm n ρ = tm n τ := h.te.etm
theorem SE.lv {n nF : Nat} {τ ρ : Mem} (h : SE τ ρ) (hL : LV (tm n τ) nF n) : LV (tm n ρ) nF n := by rw [h.etm]; exact hL
theorem put_se {d : Nat} {m : Mw} {τ : Mem} : SE τ (put d m τ) := fun _ hp => put_ne hp
/-- where a default stands -/
def ky (τ : Mem) (j : Nat) : Int := -((τ (100 + j) 4).toInt * 1099511627776) + (τ (100 + j) 3).toInt * 64 + (j : Int)
theorem ky_se {τ ρ : Mem} (h : SE τ ρ) (j : Nat) : ky ρ j = ky τ j := by unfold ky; rw [h (100 + j) (by omega)]
theorem i32_b (x : Int32) : -2147483648 ≤ x.toInt ∧ x.toInt < 2147483648 := ⟨Int32.le_toInt x, Int32.toInt_lt x⟩
theorem ky_lt {τ : Mem} {j : Nat} (hj : j < 30) : ky τ j < 4722366482869645213696 := by
  unfold ky
  have h1 := i32_b (τ (100 + j) 4)
  have h2 := i32_b (τ (100 + j) 3)
  omega
theorem ky_lo {τ : Mem} {j : Nat} : -4722366482869645213696 < ky τ j := by
  unfold ky
  have h1 := i32_b (τ (100 + j) 4)
  have h2 := i32_b (τ (100 + j) 3)
  omega
theorem s_isBehind {n c i j : Nat} {post : Int32 → Mem → Prop} {τ : Mem} (hn : n ≤ 30) (hi : i < n) (hj : j < n) (hp : ∀ r : Int32, bl (ky τ j < ky τ i) r → post r τ) : q_X8_isBehind n c post (nI i) (nI j) τ := by
  have b1 := i32_b (τ (100 + i) 4)
  have b2 := i32_b (τ (100 + j) 4)
  have b3 := i32_b (τ (100 + i) 3)
  have b4 := i32_b (τ (100 + j) 3)
  have e49 : ¬ (τ (100 + i) 4 = τ (100 + j) 4 ∧ τ (100 + i) 3 = τ (100 + j) 3) → q_X8_isBehind_49 n c post i j τ := fun hne => by
    rw [← Int32.toInt_inj, ← Int32.toInt_inj] at hne
    unfold q_X8_isBehind_49 q_X8_isBehind_85 q_X8_isBehind_89 q_X8_isBehind_90
    refine ⟨fun q => ⟨bz1, hp 1 (bl1 ?_)⟩, fun q => ⟨fun q2 => ⟨bz0, hp 0 (bl0 ?_)⟩, fun q2 => ⟨fun q3 => ⟨bz0, hp 0 (bl0 ?_)⟩, fun q3 => ⟨bz1, hp 1 (bl1 ?_)⟩⟩⟩⟩
    · rw [Int32.lt_iff_toInt_lt] at q
      unfold ky; omega
    · rw [Int32.lt_iff_toInt_lt] at q
      have q2 : ¬ (τ (100 + i) 4).toInt = (τ (100 + j) 4).toInt := fun z => q2 (Int32.toInt_inj.mp z)
      unfold ky; omega
    · rw [Int32.lt_iff_toInt_lt] at q
      rw [Int32.le_iff_toInt_le] at q3
      have q2 : (τ (100 + i) 4).toInt = (τ (100 + j) 4).toInt := by rw [q2]
      unfold ky; omega
    · rw [Int32.lt_iff_toInt_lt] at q
      rw [Int32.le_iff_toInt_le] at q3
      have q2 : (τ (100 + i) 4).toInt = (τ (100 + j) 4).toInt := by rw [q2]
      unfold ky; omega
  unfold q_X8_isBehind q_X8_isBehind_101
  refine ⟨i, ⟨hi, rfl⟩, j, ⟨hj, rfl⟩, fun q => e49 (fun z => q z.1), fun q => ⟨fun q2 => ⟨fun q3 => ⟨bz0, hp 0 (bl0 ?_)⟩, fun q3 => ⟨bz1, hp 1 (bl1 ?_)⟩⟩, fun q2 => e49 (fun z => q2 z.2)⟩⟩
  · have q3 := (nI_leI (by omega) (by omega)).mp q3
    have q4 : (τ (100 + i) 4).toInt = (τ (100 + j) 4).toInt := by rw [q]
    have q5 : (τ (100 + i) 3).toInt = (τ (100 + j) 3).toInt := by rw [q2]
    unfold ky; omega
  · have q3 : ¬ i ≤ j := fun z => q3 ((nI_leI (by omega) (by omega)).mpr z)
    have q4 : (τ (100 + i) 4).toInt = (τ (100 + j) 4).toInt := by rw [q]
    have q5 : (τ (100 + i) 3).toInt = (τ (100 + j) 3).toInt := by rw [q2]
    unfold ky; omega
theorem w_next {n c nF f : Nat} {post : Int32 → Mem → Prop} {x : Int32} {τ : Mem} (h : LV (tm n τ) nF n) (hx : x = -1 ∨ ∃ i : Nat, i < n ∧ x = nI i) (hp : ∀ r : Int32, (r = -1 ∨ ∃ j : Nat, j < n ∧ r = nI j ∧ ∀ i : Nat, i < n → x = nI i → ky τ i < ky τ j) → post r τ) : q_X8_nextDefault n c post (nI f) x τ := by
  have h30 := h.2.1
  have m1 : ∀ a : Nat, a < 30 → ¬ nI a = -1 := fun a ha z => by
    have := congrArg Int32.toInt z
    rw [nI_toInt (by omega)] at this
    have e : ((-1 : Int32)).toInt = -1 := by decide
    rw [e] at this
    omega
  unfold q_X8_nextDefault
  have key : ∀ (d j : Nat) (y : Int32), j + d = n → (y = -1 ∨ ∃ j : Nat, j < n ∧ y = nI j ∧ ∀ i : Nat, i < n → x = nI i → ky τ i < ky τ j) → lp_5 (q_X8_nextDefault_5 n c post (q_X8_nextDefault_100 n c post)) (d + 1) (nI f) x y (nI j) τ := by
    intro d
    induction d with
    | zero =>
      intro j y hj hy
      show q_X8_nextDefault_5 _ _ _ _ _ _ _ _ _ _
      unfold q_X8_nextDefault_5 q_X8_nextDefault_100
      exact ⟨fun _ => hp y hy, fun q => absurd (nI_le (by omega) (by omega)) q⟩
    | succ d ih =>
      intro j y hj hy
      show q_X8_nextDefault_5 _ _ _ _ _ _ _ _ _ _
      have hj2 : j < n := by omega
      have nx : ∀ z : Int32, (z = -1 ∨ ∃ j : Nat, j < n ∧ z = nI j ∧ ∀ i : Nat, i < n → x = nI i → ky τ i < ky τ j) → q_X8_nextDefault_94 n c post (q_X8_nextDefault_100 n c post) (lp_5 (q_X8_nextDefault_5 n c post (q_X8_nextDefault_100 n c post)) (d + 1)) (nI f) x z (nI j) τ := fun z hz => by
        unfold q_X8_nextDefault_94
        rintro _ rfl
        rw [nI_1]
        exact ih (j + 1) z (by omega) hz
      have e76 : (∀ i : Nat, i < n → x = nI i → ky τ i < ky τ j) → q_X8_nextDefault_76 n c post (q_X8_nextDefault_100 n c post) (lp_5 (q_X8_nextDefault_5 n c post (q_X8_nextDefault_100 n c post)) (d + 1)) (nI f) x y (nI j) τ := fun hb => by
        unfold q_X8_nextDefault_76 q_X8_nextDefault_91
        have here := nx (nI j) (Or.inr ⟨j, hj2, rfl, hb⟩)
        refine ⟨fun _ => here, fun q => ?_⟩
        obtain ⟨i, hi, ei, -⟩ := hy.resolve_left q
        rw [ei]
        refine s_isBehind h30 hi hj2 (fun r hr => ⟨fun _ => ?_, fun _ => here⟩)
        rw [← ei]
        exact nx y hy
      unfold q_X8_nextDefault_5
      refine ⟨fun q => absurd ((nI_leI (by omega) (by omega)).mp q) (by omega), fun _ => ⟨j, ⟨hj2, rfl⟩, fun _ => nx y hy, fun _ => ⟨fun _ => nx y hy, fun _ => s_X8_counts (n := n) (h.ab hj2) (fun r hr => ⟨fun _ => nx y hy, fun _ => ⟨fun q => e76 (fun i hi z => absurd (z.symm.trans q) (m1 i (by omega))), fun q => ?_⟩⟩)⟩⟩⟩
      obtain ⟨i, hi, ei⟩ := hx.resolve_left q
      rw [ei]
      refine s_isBehind h30 hj2 hi (fun r hr => ⟨fun z => ?_, fun _ => ?_⟩)
      · rw [← ei]
        refine e76 (fun i2 hi2 e2 => ?_)
        rw [ei] at e2
        rw [← nI_inj (by omega) (by omega) e2]
        exact hr.t z
      · rw [← ei]
        exact nx y hy
  exact ⟨n + 1, key n 0 (-1) (Nat.zero_add n) (Or.inl rfl)⟩
theorem s_ntz {post : Int32 → Mem → Prop} {x : Int32} {τ : Mem} (hp : ∀ r : Int32, post r τ) : q_J6_numberOfTrailingZeros_0f7a4 post x τ := by
  unfold q_J6_numberOfTrailingZeros_0f7a4 q_J6_numberOfTrailingZeros_0f7a4_34 q_J6_numberOfTrailingZeros_0f7a4_49 q_J6_numberOfTrailingZeros_0f7a4_62 q_J6_numberOfTrailingZeros_0f7a4_74
  rintro _ rfl
  refine ⟨fun _ => ⟨fun _ => ⟨fun _ => ⟨fun _ => ⟨fun _ => hp _, fun _ => ?_⟩, fun _ => ?_⟩, fun _ => ?_⟩, fun _ => ?_⟩, fun _ => hp _⟩
  · rintro _ rfl _ rfl; exact hp _
  · rintro _ rfl _ rfl; exact ⟨fun _ => hp _, fun _ => by rintro _ rfl _ rfl; exact hp _⟩
  · rintro _ rfl _ rfl
    refine ⟨fun _ => ⟨fun _ => hp _, fun _ => by rintro _ rfl _ rfl; exact hp _⟩, fun _ => ?_⟩
    rintro _ rfl _ rfl; exact ⟨fun _ => hp _, fun _ => by rintro _ rfl _ rfl; exact hp _⟩
  · rintro _ rfl _ rfl
    refine ⟨fun _ => ⟨fun _ => ⟨fun _ => hp _, fun _ => by rintro _ rfl _ rfl; exact hp _⟩, fun _ => ?_⟩, fun _ => ?_⟩
    · rintro _ rfl _ rfl; exact ⟨fun _ => hp _, fun _ => by rintro _ rfl _ rfl; exact hp _⟩
    · rintro _ rfl _ rfl
      refine ⟨fun _ => ⟨fun _ => hp _, fun _ => by rintro _ rfl _ rfl; exact hp _⟩, fun _ => ?_⟩
      rintro _ rfl _ rfl; exact ⟨fun _ => hp _, fun _ => by rintro _ rfl _ rfl; exact hp _⟩
theorem w_least {n c d f : Nat} {post : Int32 → Mem → Prop} {τ : Mem} (hd : d < 7) (hf : f < 5) (hp : ∀ r : Int32, post r τ) : q_X8_least n c post (nI d) (nI f) τ := by
  unfold q_X8_least
  exact s_setOf hd hf (s_ntz hp)
theorem w_settle48 {n c nF f : Nat} {post : Mem → Prop} {kE : Int32 → Int32 → Mem → Prop} {x1 : Int32} {τ : Mem} (h : LV (tm n τ) nF n) (hf : f < 5) (hE : ∀ ρ : Mem, SE τ ρ → RW (row 0 ρ) → kE x1 (nI f) ρ) :
    ∀ (k : Nat) (x3 x4 : Int32) (ρ : Mem), SE τ ρ → RW (row 0 ρ) → (x4 = -1 ∨ ∃ j : Nat, j < n ∧ x4 = nI j ∧ 4722366482869645213696 ≤ ky τ j + (k : Int)) → lp_5 (q_X8_settle_48 n c post kE) (k + 1) x1 (nI f) x3 x4 ρ := by
  have h30 := h.2.1
  intro k
  induction k with
  | zero =>
    intro x3 x4 ρ hs hr hx
    show q_X8_settle_48 _ _ _ _ _ _ _ _ _ _
    unfold q_X8_settle_48
    refine ⟨fun _ => hE ρ hs hr, fun q => ?_⟩
    obtain ⟨j, hj, -, e⟩ := hx.resolve_left q
    have := ky_lt (τ := τ) (j := j) (by omega)
    omega
  | succ k ih =>
    intro x3 x4 ρ hs hr hx
    show q_X8_settle_48 _ _ _ _ _ _ _ _ _ _
    unfold q_X8_settle_48
    refine ⟨fun _ => hE ρ hs hr, fun q => ⟨fun _ => hE ρ hs hr, fun _ => ?_⟩⟩
    obtain ⟨j, hj, ej, e⟩ := hx.resolve_left q
    have nx : ∀ (y3 : Int32) (ρ2 : Mem), SE τ ρ2 → RW (row 0 ρ2) → q_X8_settle_123 n c post kE (lp_5 (q_X8_settle_48 n c post kE) (k + 1)) x1 (nI f) y3 x4 ρ2 := fun y3 ρ2 hs2 hr2 => by
      unfold q_X8_settle_123
      refine w_next (hs2.lv h) (Or.inr ⟨j, hj, ej⟩) (fun r hr9 => ih y3 r ρ2 hs2 hr2 ?_)
      rcases hr9 with z | ⟨j2, hj2, ej2, hlt⟩
      · exact Or.inl z
      · refine Or.inr ⟨j2, hj2, ej2, ?_⟩
        have := hlt j hj ej
        rw [ky_se hs2, ky_se hs2] at this
        omega
    refine ⟨j, ⟨hj, ej⟩, ?_⟩
    rintro _ rfl
    refine s_canBe (d := 0) (by decide) hf (fun r _ => ⟨fun _ => ?_, fun _ => nx x3 ρ hs hr⟩)
    have r1 : row 1 (put 1 (row 0 ρ) ρ) = row 0 ρ := row_put hr
    refine s_copy8 (a := 0) (b := 1) (by decide) (by decide) (s_only (d := 1) (by decide) hf ?_)
    rw [r1, put_put]
    have hm2 := upd_RW (f := f) hr hf (and_s8 (b := (1 : Int32) <<< (ρ (100 + j) 3 &&& 31)) (hr.2 f))
    generalize upd (row 0 ρ) f (row 0 ρ f &&& ((1 : Int32) <<< (ρ (100 + j) 3 &&& 31))) = m2 at hm2
    have sm2 : SE τ (put 1 m2 ρ) := hs.trans put_se
    refine s_meet (d := 1) (sm2.lv h) (by decide) (by rw [row_put hm2]; exact hm2) ?_
    rw [row_put hm2, put_put, sm2.etm]
    have hm3 := mt_RW (set := x1) h hm2
    generalize mtF (tm n τ) x1 nF n m2 = m3 at hm3
    have sm3 : SE τ (put 1 m3 ρ) := hs.trans put_se
    have r0 : row 0 (put 1 m3 ρ) = row 0 ρ := row_put_ne (by decide)
    refine ⟨fun _ => s_copy8 (a := 1) (b := 0) (by decide) (by decide) (nx 0 _ (sm3.trans put_se) ?_), fun _ => nx x3 _ sm3 (by rw [r0]; exact hr)⟩
    rw [row_put (by rw [row_put hm3]; exact hm3), row_put hm3]
    exact hm3
theorem w_settle {n c nF : Nat} {post : Mem → Prop} {τ : Mem} (h : LV (tm n τ) nF n) (hp : ∀ ρ : Mem, SE τ ρ → RW (row 0 ρ) → post ρ) : q_X8_settle n c post τ := by
  have h5 := h.1
  unfold q_X8_settle
  refine s_counting h (s_meetAnew (d := 0) h (by decide) ?_)
  have hm := mt_RW (set := stF (tm n τ) n 0 0) h full_RW
  generalize mtF (tm n τ) (stF (tm n τ) n 0 0) nF n full = m at hm
  generalize stF (tm n τ) n 0 0 = x1
  have r0 : RW (row 0 (put 0 m τ)) := by rw [row_put hm]; exact hm
  refine ⟨fun _ => ?_, fun _ => hp _ put_se r0⟩
  have key : ∀ (d f : Nat) (ρ : Mem), f + d = nF → SE τ ρ → RW (row 0 ρ) → lp_3 (q_X8_settle_17 n c post (q_X8_settle_141 n c post)) (d + 1) x1 (nI f) ρ := by
    intro d
    induction d with
    | zero =>
      intro f ρ hf hs hr
      show q_X8_settle_17 _ _ _ _ _ _ _ _
      unfold q_X8_settle_17 q_X8_settle_141
      rw [nfm (hs.lv h)]
      exact ⟨fun _ => hp ρ hs hr, fun q => absurd (nI_le (by omega) (by omega)) q⟩
    | succ d ih =>
      intro f ρ hf hs hr
      show q_X8_settle_17 _ _ _ _ _ _ _ _
      unfold q_X8_settle_17
      rw [nfm (hs.lv h)]
      have e135 : ∀ ρ2 : Mem, SE τ ρ2 → RW (row 0 ρ2) → q_X8_settle_135 n c post (q_X8_settle_141 n c post) (lp_3 (q_X8_settle_17 n c post (q_X8_settle_141 n c post)) (d + 1)) x1 (nI f) ρ2 := fun ρ2 hs2 hr2 => by
        unfold q_X8_settle_135
        rintro _ rfl
        rw [nI_1]
        exact ih (f + 1) ρ2 (by omega) hs2 hr2
      refine ⟨fun q => absurd ((nI_leI (by omega) (by omega)).mp q) (by omega), fun _ => s_X8_count (d := 0) (by decide) (by omega) ⟨fun _ => w_next (hs.lv h) (Or.inl rfl) (fun r hr9 => ?_), fun _ => e135 ρ hs hr⟩⟩
      refine ⟨(4722366482869645213696 + 4722366482869645213696 : Int).toNat + 1, w_settle48 h (by omega) e135 _ 1 r ρ hs hr ?_⟩
      rcases hr9 with z | ⟨j, hj, ej, -⟩
      · exact Or.inl z
      · refine Or.inr ⟨j, hj, ej, ?_⟩
        have := ky_lo (τ := τ) (j := j)
        omega
  exact ⟨nF + 1, key nF 0 _ (Nat.zero_add _) put_se r0⟩
theorem w_whatIs {n c nF f : Nat} {post : Int32 → Mem → Prop} {τ : Mem} (h : LV (tm n τ) nF n) (hf : f < 5) (hp : ∀ (r : Int32) (ρ : Mem), SE τ ρ → post r ρ) : q_X8_whatIs n c post (nI f) τ := by
  unfold q_X8_whatIs q_X8_whatIs_24
  exact w_settle h (fun ρ hs _ => s_X8_count (d := 0) (by decide) hf ⟨fun _ => hp _ ρ hs, fun _ => w_least (d := 0) (by decide) hf (fun r => hp r ρ hs)⟩)
theorem w_reasonFor {n c nF : Nat} {post : Int32 → Mem → Prop} {x : Int32} {τ : Mem} (h : LV (tm n τ) nF n) (hx : x = -1 ∨ vp_in x 5) (hp : ∀ (r : Int32) (ρ : Mem), SE τ ρ → post r ρ) : q_X8_reasonFor n c post x τ := by
  have h30 := h.2.1
  have key : ∀ (d j : Nat) (x1 x2 x3 x4 : Int32) (ρ : Mem), j + d = n → SE τ ρ → (x3 = 0 → vp_in x1 5) → lp_6 (q_X8_reasonFor_42 n c post (q_X8_reasonFor_124 n c post)) (d + 1) x1 x2 x3 x4 (nI j) ρ := by
    intro d
    induction d with
    | zero =>
      intro j x1 x2 x3 x4 ρ hj hs h1
      show q_X8_reasonFor_42 _ _ _ _ _ _ _ _ _ _ _
      unfold q_X8_reasonFor_42 q_X8_reasonFor_124
      exact ⟨fun _ => hp _ ρ hs, fun q => absurd (nI_le (by omega) (by omega)) q⟩
    | succ d ih =>
      intro j x1 x2 x3 x4 ρ hj hs h1
      show q_X8_reasonFor_42 _ _ _ _ _ _ _ _ _ _ _
      have nx : ∀ (y2 : Int32) (ρ2 : Mem), SE τ ρ2 → q_X8_reasonFor_118 n c post (q_X8_reasonFor_124 n c post) (lp_6 (q_X8_reasonFor_42 n c post (q_X8_reasonFor_124 n c post)) (d + 1)) x1 y2 x3 x4 (nI j) ρ2 := fun y2 ρ2 hs2 => by
        unfold q_X8_reasonFor_118
        rintro _ rfl
        rw [nI_1]
        exact ih (j + 1) x1 y2 x3 x4 ρ2 (by omega) hs2 h1
      unfold q_X8_reasonFor_42 q_X8_reasonFor_109
      refine ⟨fun q => absurd ((nI_leI (by omega) (by omega)).mp q) (by omega), fun _ => ⟨fun _ => s_meetAnew (d := 0) (hs.lv h) (by decide) ?_, fun _ => nx x2 ρ hs⟩⟩
      have s2 := hs.trans (put_se (d := 0) (m := mtF (tm n ρ) (x2 &&& (((1 : Int32) <<< (nI j &&& 31)) ^^^ (-1))) nF n full) (τ := ρ))
      refine ⟨fun z => ⟨fun _ => nx x2 _ s2, fun _ => ?_⟩, fun _ => ⟨fun _ => nx x2 _ s2, fun _ => ?_⟩⟩
      · obtain ⟨f, hf, rfl, -⟩ := vin_idx (h1 z)
        refine s_setOf (d := 0) (by decide) hf ⟨fun _ => nx x2 _ s2, fun _ => ?_⟩
        rintro _ rfl
        exact nx _ _ s2
      · rintro _ rfl
        exact nx _ _ s2
  unfold q_X8_reasonFor
  refine s_counting h (s_meetAnew (d := 0) h (by decide) ?_)
  generalize mtC (tm n τ) (stF (tm n τ) n 0 0) nF n full = x3
  have s1 := put_se (d := 0) (m := mtF (tm n τ) (stF (tm n τ) n 0 0) nF n full) (τ := τ)
  generalize put 0 (mtF (tm n τ) (stF (tm n τ) n 0 0) nF n full) τ = ρ at s1
  have e23 : (x3 = 0 → vp_in x 5) → q_X8_reasonFor_23 n c post x (stF (tm n τ) n 0 0) x3 ρ := fun hv => by
    unfold q_X8_reasonFor_23 q_X8_reasonFor_37
    refine ⟨fun z => ?_, fun z => ⟨n + 1, key n 0 _ _ _ _ ρ (Nat.zero_add _) s1 hv⟩⟩
    have hv2 := hv z
    obtain ⟨f, hf, rfl, -⟩ := vin_idx hv2
    exact s_setOf (d := 0) (by decide) hf ⟨n + 1, key n 0 _ _ _ _ ρ (Nat.zero_add _) s1 hv⟩
  exact ⟨fun q => e23 (fun _ => hx.resolve_left q), fun q => ⟨fun z => e23 (fun z2 => absurd z2 z), fun _ => hp 0 ρ s1⟩⟩
