/-! THE REFERENCE: whether one is chosen, and how many choices there are -/
theorem bS_none {P : (Nat → Nat) → Prop} {w : Nat → Nat} {nF : Nat} (h : ∀ y : Nat → Nat, cv_Ok nF y → ¬ P y) : cv_bS P w nF = (1000, fun _ => 0) := by
  unfold cv_bS
  split
  · rfl
  · exact bf_stay nF 0 _ _ (Nat.zero_add _) (fun f hf => absurd hf (Nat.not_lt_zero f)) (fun y _ ho hP => absurd hP (h y ho))
theorem x_isChosen {n c nF : Nat} {w : Nat → Nat} {post : Int32 → Mem → Prop} {τ : Mem} (h : LV (tm n τ) nF n) (hw : ∀ f : Nat, f < nF → τ 2 f = nI (w f) ∧ w f ≤ 9)
    (hp : ∀ (r : Int32) (ρ : Mem), WY τ ρ → bl ((cv_bS (cv_P (tm n τ) (stF (tm n τ) n 0 0) n nF full) w nF).1 < 1000) r → ((cv_bS (cv_P (tm n τ) (stF (tm n τ) n 0 0) n nF full) w nF).1 < 1000 → ρ 0 12 = nI (cv_bS (cv_P (tm n τ) (stF (tm n τ) n 0 0) n nF full) w nF).1 ∧ ∀ f : Nat, f < nF → ρ 9 f = nI ((cv_bS (cv_P (tm n τ) (stF (tm n τ) n 0 0) n nF full) w nF).2 f)) → post r ρ) : q_X8_isChosen n c post τ := by
  have h5 := h.1
  unfold q_X8_isChosen q_X8_isChosen_26 q_X8_isChosen_46
  rintro _ rfl
  have w1 : WY τ (mst τ 0 13 0) := mst0_wy (by omega)
  have et : tm n (mst τ 0 13 0) = tm n τ := w1.etm
  have hL := w1.lv h
  refine s_counting hL ?_
  rw [et]
  generalize hset : stF (tm n τ) n 0 0 = set at hp ⊢
  have no : (cv_bS (cv_P (tm n τ) set n nF full) w nF) = (1000, fun _ => 0) → ∀ ρ : Mem, WY τ ρ → post 0 ρ := fun e ρ hρ => by
    rw [e] at hp
    exact hp 0 ρ hρ (bl0 (Nat.lt_irrefl 1000)) (fun z => absurd z (Nat.lt_irrefl 1000))
  refine ⟨fun q => no (if_pos ?_) _ w1, fun q => s_meetAnew (d := 1) hL (by decide) ?_⟩
  · rw [nfm hL] at q
    exact nI_inj (a := nF) (b := 0) (by omega) (by decide) q
  have nF0 : ¬ nF = 0 := fun z => q (by rw [nfm hL, z]; rfl)
  rw [et]
  have hm := mt_RW (set := set) h full_RW
  have w2 : WY (mst τ 0 13 0) (put 1 (mtF (tm n τ) set nF n full) (mst τ 0 13 0)) := put_wy
  refine ⟨fun q0 => ?_, fun q1 => no (bS_none (fun y ho hP => q1 (mt_in h ho hP.1 full_RW hP.2).1)) _ (w1.trans w2)⟩
  have r0 := ri_root (x := fun _ => 0) h full_RW q0
  have c1 := cs_1000 (w := w) (x := fun f => ls (mtF (tm n τ) set nF n full f)) h5 (fun f hf => (hw f hf).2) (fun f _ => ls_8 _)
  have rm : row (0 + 1) (put 1 (mtF (tm n τ) set nF n full) (mst τ 0 13 0)) = mtF (tm n τ) set nF n full := row_put hm
  refine x_choose (al := full) (w := w) h hw 6 0 nF (fun _ => 0) (1000, fun _ => 0) _ _ (Nat.zero_add _) (by decide) (w1.trans w2) (fun f hf => absurd hf (Nat.not_lt_zero f)) (fun f hf => absurd hf (Nat.not_lt_zero f)) (by rw [rm]; exact r0) (by rw [rm]; exact c1) ⟨0, ?_, by decide, Or.inl ⟨rfl, rfl⟩⟩ (fun ρ hρ _ _ hs => ?_)
  · rw [put_ne (by decide), mst_eq, upd_eq]; rfl
  · have eb : cv_bS (cv_P (tm n τ) set n nF full) w nF = cv_bf (cv_P (tm n τ) set n nF full) w nF nF 0 (fun _ => 0) (1000, fun _ => 0) := if_neg nF0
    rw [← eb] at hs
    have hρ2 : WY τ ρ := (w1.trans w2).trans hρ
    obtain ⟨k, k1, k2, k3⟩ := hs
    have l0 := le0_nI (k := k) (by omega)
    rw [← k1] at l0
    refine ⟨fun z => ⟨bz0, ?_⟩, fun z => ⟨bz1, ?_⟩⟩
    · rcases k3 with ⟨y, -⟩ | ⟨-, y, -⟩
      · exact hp 0 ρ hρ2 (bl0 (by omega)) (fun z => absurd z (by omega))
      · exact absurd (l0.mp z) (by omega)
    · rcases k3 with ⟨-, y⟩ | ⟨y, -, y2, y3⟩
      · exact absurd (l0.mpr y) z
      · exact hp 1 ρ hρ2 (bl1 y) (fun _ => ⟨y2, y3⟩)
theorem x_countFrom {n c nF : Nat} {set : Int32} {al : Mw} {τ0 : Mem} (h : LV (tm n τ0) nF n) :
    ∀ (k d e : Nat) (x : Nat → Nat) (s : Nat) (post : Int32 → Mem → Prop) (τ : Mem), d + e = nF → 6 ≤ k + d → WY τ0 τ → cv_Ok d x → cv_RI (tm n τ0) set nF n al d x (row (d + 1) τ) → s < 500 →
      (∀ ρ : Mem, WY τ ρ → (∀ e : Nat, e ≤ d + 1 → row e ρ = row e τ) → post (nI (cv_cf (cv_P (tm n τ0) set n nF al) e d x s)) ρ) → q_X8_countFrom n c k post (nI (d + 1)) set (nI s) τ := by
  have h5 := h.1
  intro k
  induction k with
  | zero => intro d e x s post τ h1 h2; omega
  | succ k ihk =>
    intro d e x s post τ hd h6 hW hx hr hs hp
    have hL : LV (tm n τ) nF n := hW.lv h
    have e1 : nI (d + 1) - 1 = nI d := nI_m1 (d := d + 1) (by omega)
    show q_X8_countFrom_b _ _ _ _ _ _ _ _
    unfold q_X8_countFrom_b
    rw [e1, nfm hL]
    rintro _ rfl
    refine ⟨fun q => ?_, fun q => ?_⟩
    · have hdn : d < nF := by
        rcases Nat.lt_or_ge d nF with z | z
        · exact z
        · exact absurd (by rw [show d = nF by omega]) q
      obtain ⟨e', rfl⟩ : ∃ e' : Nat, e = e' + 1 := ⟨e - 1, by omega⟩
      have key : ∀ (m v : Nat) (s : Nat) (ρ : Mem), v + m = 8 → WY τ ρ → (∀ e : Nat, e ≤ d + 1 → row e ρ = row e τ) → s ≤ 500 →
          (∀ χ : Mem, WY τ χ → (∀ e : Nat, e ≤ d + 1 → row e χ = row e τ) → post (nI (cv_lp (fun i s => if 500 ≤ s then s else cv_cf (cv_P (tm n τ0) set n nF al) e' (d + 1) (cv_up x d i) s) m v s)) χ) →
          lp_6 (q_X8_countFrom_24 n c (q_X8_countFrom n c k) post (q_X8_countFrom_102 n c (q_X8_countFrom n c k) post)) (m + 1) (nI (d + 1)) set (nI d) (nI s) (nI v) ρ := by
        intro m
        induction m with
        | zero =>
          intro v s ρ hv hρ hrow hs hp
          show q_X8_countFrom_24 _ _ _ _ _ _ _ _ _ _ _ _
          unfold q_X8_countFrom_24 q_X8_countFrom_102
          rw [show v = 8 by omega]
          exact ⟨fun _ => hp ρ hρ hrow, fun z => absurd (by decide) z⟩
        | succ m ih =>
          intro v s ρ hv hρ hrow hs hp
          have l5 : (500 : Int32) ≤ nI s ↔ 500 ≤ s := nI_leI (a := 500) (by decide) (by omega)
          show q_X8_countFrom_24 _ _ _ _ _ _ _ _ _ _ _ _
          unfold q_X8_countFrom_24
          refine ⟨fun z => absurd ((nI_leI (a := 8) (b := v) (by decide) (by omega)).mp z) (by omega), fun _ => ⟨fun z5 => ?_, fun z5 => ?_⟩⟩
          · have q5 := l5.mp z5
            have e : cv_lp (fun i s => if 500 ≤ s then s else cv_cf (cv_P (tm n τ0) set n nF al) e' (d + 1) (cv_up x d i) s) (m + 1) v s = s := lp_fix (g := fun i s => if 500 ≤ s then s else cv_cf (cv_P (tm n τ0) set n nF al) e' (d + 1) (cv_up x d i) s) (s := s) (fun i => if_pos q5) (m + 1) v
            rw [e] at hp
            unfold q_X8_countFrom_102
            exact hp ρ hρ hrow
          have q5 : ¬ 500 ≤ s := fun y => z5 (l5.mpr y)
          unfold cv_lp at hp
          have hp : ∀ χ : Mem, WY τ χ → (∀ e : Nat, e ≤ d + 1 → row e χ = row e τ) → post (nI (cv_lp (fun i s => if 500 ≤ s then s else cv_cf (cv_P (tm n τ0) set n nF al) e' (d + 1) (cv_up x d i) s) m (v + 1) (if 500 ≤ s then s else cv_cf (cv_P (tm n τ0) set n nF al) e' (d + 1) (cv_up x d v) s))) χ := hp
          rw [if_neg q5] at hp
          have nx : ∀ χ : Mem, WY τ χ → (∀ e : Nat, e ≤ d + 1 → row e χ = row e τ) → q_X8_countFrom_96 n c (q_X8_countFrom n c k) post (q_X8_countFrom_102 n c (q_X8_countFrom n c k) post) (lp_6 (q_X8_countFrom_24 n c (q_X8_countFrom n c k) post (q_X8_countFrom_102 n c (q_X8_countFrom n c k) post)) (m + 1)) (nI (d + 1)) set (nI d) (nI (cv_cf (cv_P (tm n τ0) set n nF al) e' (d + 1) (cv_up x d v) s)) (nI v) χ := fun χ a b => by
            unfold q_X8_countFrom_96
            rintro _ rfl
            rw [nI_1]
            exact ih (v + 1) _ χ (by omega) a b (cf_le e' (d + 1) _ s (by omega)) hp
          have nx0 : (∀ y : Nat → Nat, cv_Ex (d + 1) (cv_up x d v) y → cv_Ok nF y → ¬ cv_P (tm n τ0) set n nF al y) → ∀ χ : Mem, WY τ χ → (∀ e : Nat, e ≤ d + 1 → row e χ = row e τ) → q_X8_countFrom_96 n c (q_X8_countFrom n c k) post (q_X8_countFrom_102 n c (q_X8_countFrom n c k) post) (lp_6 (q_X8_countFrom_24 n c (q_X8_countFrom n c k) post (q_X8_countFrom_102 n c (q_X8_countFrom n c k) post)) (m + 1)) (nI (d + 1)) set (nI d) (nI s) (nI v) χ := fun hno χ a b => by
            have := nx χ a b
            rw [cf_stay (nF := nF) e' (d + 1) (cv_up x d v) s (by omega) (ok_up hx (by omega)) hno] at this
            exact this
          have em : row (d + 1) ρ = row (d + 1) τ := hrow (d + 1) (Nat.le_refl _)
          refine s_canBe (by omega) (by omega) (fun r hbr => ⟨fun z => ?_, fun z => nx0 (fun y he ho hP => ?_) ρ hρ hrow⟩)
          · have hb := hbr.t z
            rw [em] at hb
            rw [nI_1]
            have r1 : row (d + 1 + 1) (put (d + 1 + 1) (row (d + 1) ρ) ρ) = row (d + 1) ρ := row_put (by rw [em]; exact hr.1)
            refine s_copy8 (by omega) (by omega) (s_only (by omega) (by omega) ?_)
            rw [r1, put_put, em]
            have hm2 := upd_RW (f := d) (x := row (d + 1) τ d &&& b1 v) hr.1 (by omega) (and_s8 (hr.1.2 d))
            show q_X8_meet n c _ (nI (d + 1 + 1)) set (put (d + 1 + 1) (upd (row (d + 1) τ) d (row (d + 1) τ d &&& b1 v)) ρ)
            have eρ : tm n ρ = tm n τ0 := (hW.trans hρ).etm
            refine s_meet (put_wy.lv ((hW.trans hρ).lv h)) (by omega) (by rw [row_put hm2]; exact hm2) ?_
            rw [row_put hm2, put_put, put_te.etm, eρ]
            have hm3 := mt_RW (set := set) h hm2
            have hχ : WY τ (put (d + 1 + 1) (mtF (tm n τ0) set nF n (upd (row (d + 1) τ) d (row (d + 1) τ d &&& b1 v))) ρ) := hρ.trans put_wy
            have hχr : ∀ e : Nat, e ≤ d + 1 → row e (put (d + 1 + 1) (mtF (tm n τ0) set nF n (upd (row (d + 1) τ) d (row (d + 1) τ d &&& b1 v))) ρ) = row e τ := fun e he => (row_put_ne (by omega)).trans (hrow e he)
            have hχm : row (d + 1 + 1) (put (d + 1 + 1) (mtF (tm n τ0) set nF n (upd (row (d + 1) τ) d (row (d + 1) τ d &&& b1 v))) ρ) = mtF (tm n τ0) set nF n (upd (row (d + 1) τ) d (row (d + 1) τ d &&& b1 v)) := row_put hm3
            refine ⟨fun q1 => nx0 (fun y he ho hP => ri_no h hr (by omega) (by omega) q1 he ho hP) _ hχ hχr, fun q0 => ?_⟩
            have rs := ri_step h hr hx hdn (show v < 8 by omega) q0
            rw [← hχm] at rs
            exact ihk (d + 1) e' (cv_up x d v) s _ _ (by omega) (by omega) (hW.trans hχ) (ok_up hx (by omega)) rs (by omega) (fun ω hω hωr => nx ω (hχ.trans hω) (fun e he => by rw [hωr e (by omega), hχr e he]))
          · have hb := hbr.f z
            rw [em] at hb
            exact ri_not hr hdn hb he ho hP
      unfold cv_cf at hp
      exact ⟨9, key 8 0 s τ rfl WY.rf (fun _ _ => rfl) (by omega) hp⟩
    · have hdn : d = nF := nI_inj (by omega) (by omega) q
      subst hdn
      have ee : e = 0 := by omega
      subst ee
      have := hp τ WY.rf (fun _ _ => rfl)
      unfold cv_cf at this
      rw [if_pos (ri_leaf h hr hx)] at this
      rw [nI_1]
      exact this
theorem al_RW {F N : Nat} (hF : F < 5) (hN : N < 8) : RW (cv_al F N) := upd_RW full_RW hF (b1_255 N hN)
theorem full_b1 : ∀ N : Nat, N < 8 → (255 : Int32) &&& ((1 : Int32) <<< (nI N &&& 31)) = (1 : Int32) <<< (nI N &&& 31) := by decide +kernel
/-- the reference counts the choices with a number -/
theorem x_count {n c nF F N : Nat} {post : Int32 → Mem → Prop} {τ : Mem} {set : Int32} (h : LV (tm n τ) nF n) (hF : F < nF) (hN : N < 8)
    (hp : ∀ ρ : Mem, WY τ ρ → post (nI (cv_cf (cv_P (tm n τ) set n nF (cv_al F N)) nF 0 (fun _ => 0) 0)) ρ) :
    q_X8_begin n c (fun (σ11 : Mem) => (q_X8_only n c (fun (σ13 : Mem) => (q_X8_meet n c (fun (r14 : Int32) (σ15 : Mem) => ((r14 = 0 → (q_X8_countFrom n c 6 (fun (r17 : Int32) (σ18 : Mem) => post r17 (σ18)) 1 set 0 (σ15))) ∧ (¬ (r14 = 0) → post 0 (σ15)))) 1 set (σ13))) 1 (nI F) (nI N) (σ11))) 1 τ := by
  have h5 := h.1
  refine s_begin8 (d := 1) (by decide) (s_only (d := 1) (by decide) (by omega) ?_)
  have r1 : row 1 (put 1 full τ) = full := row_put full_RW
  have e2 : upd full F (full F &&& ((1 : Int32) <<< (nI N &&& 31))) = cv_al F N := by
    unfold cv_al b1
    rw [show full F = 255 from if_pos (by omega), full_b1 N hN]
  rw [r1, put_put, e2]
  have hm2 := al_RW (F := F) (N := N) (by omega) hN
  refine s_meet (d := 1) (put_wy.lv h) (by decide) (by rw [row_put hm2]; exact hm2) ?_
  rw [row_put hm2, put_put, put_te.etm]
  have hm3 := mt_RW (set := set) h hm2
  have w2 : WY τ (put 1 (mtF (tm n τ) set nF n (cv_al F N)) τ) := put_wy
  have ok0 : cv_Ok 0 (fun _ => 0) := fun f hf => absurd hf (Nat.not_lt_zero f)
  refine ⟨fun q0 => ?_, fun q1 => ?_⟩
  · have r0 := ri_root (x := fun _ => 0) h hm2 q0
    have rm : row (0 + 1) (put 1 (mtF (tm n τ) set nF n (cv_al F N)) τ) = mtF (tm n τ) set nF n (cv_al F N) := row_put hm3
    exact x_countFrom h 6 0 nF (fun _ => 0) 0 _ _ (Nat.zero_add _) (by decide) w2 ok0 (by rw [rm]; exact r0) (by decide) (fun ρ hρ _ => hp ρ (w2.trans hρ))
  · have := hp _ w2
    rw [cf_stay (nF := nF) nF 0 (fun _ => 0) 0 (Nat.zero_add _) ok0 (fun y _ ho hP => q1 (mt_in h ho hP.1 hm2 hP.2).1)] at this
    exact this
