/-! THE REFERENCE'S CHOOSER FINDS WHAT IS SAID, AND COUNTS IT -/
def WY (τ ρ : Mem) : Prop := WE τ ρ ∧ ∀ i : Nat, (i = 0 ∨ 14 ≤ i) → ρ 0 i = τ 0 i
theorem WY.rf {τ : Mem} : WY τ τ := ⟨WE.rf, fun _ _ => rfl⟩
theorem WY.trans {τ ρ χ : Mem} (h : WY τ ρ) (h2 : WY ρ χ) : WY τ χ := ⟨h.1.trans h2.1, fun i hi => (h2.2 i hi).trans (h.2 i hi)⟩
theorem WY.z {τ ρ : Mem} (h : WY τ ρ) : ρ 0 0 = τ 0 0 := h.2 0 (Or.inl rfl)
theorem WY.etm {n : Nat} {τ ρ : Mem} (h : WY τ ρ) : tm n ρ = tm n τ := h.1.etm
theorem WY.lv {n nF nL : Nat} {τ ρ : Mem} (h : WY τ ρ) (hL : LV (tm n τ) nF nL) : LV (tm n ρ) nF nL := h.1.lv hL
theorem SE.wy {τ ρ : Mem} (h : SE τ ρ) : WY τ ρ := ⟨h.we, fun i _ => by rw [h 0 (by decide)]⟩
theorem put_wy {d : Nat} {m : Mw} {τ : Mem} : WY τ (put d m τ) := ⟨put_we, fun i _ => by rw [put_ne (by decide)]⟩
theorem mst0_wy {τ : Mem} {i : Nat} {x : Int32} (hi : i = 12 ∨ i = 13) : WY τ (mst τ 0 i x) := ⟨mst0_we (by omega), fun k hk => by rw [mst_eq, upd_ne (by omega)]⟩
theorem mstp_wy {τ : Mem} {p i : Nat} {x : Int32} (hp : 7 ≤ p ∧ p < 10) : WY τ (mst τ p i x) := ⟨mstp_we hp, fun i _ => by rw [mst_ne (by omega)]⟩
theorem mup_wy {τ : Mem} {p : Nat} {f : Nat → Int32} (hp : 7 ≤ p ∧ p < 10) : WY τ (mup τ p f) := ⟨mup_we hp, fun i _ => by rw [mup_ne (by omega)]⟩
def cv_Rr (nF : Nat) (τ : Mem) (s : Sp) : Prop := ∃ k : Nat, τ 0 13 = nI k ∧ k + s.1 ≤ 1000 ∧ (s.1 = 1000 ∧ k = 0 ∨ s.1 < 1000 ∧ 0 < k ∧ τ 0 12 = nI s.1 ∧ ∀ f : Nat, f < nF → τ 9 f = nI (s.2 f))
theorem cs_1000 {w x : Nat → Nat} {nF : Nat} (h5 : nF ≤ 5) (hw : ∀ f : Nat, f < nF → w f ≤ 9) (hx : ∀ f : Nat, f < nF → x f < 8) : cv_cs w nF x < 1000 := by
  have := cs_315 (w := w) (x := x) nF (fun i hi => ⟨hx i hi, hw i hi⟩)
  omega
theorem le0_nI {k : Nat} (hk : k < 2 ^ 31) : nI k ≤ 0 ↔ k = 0 := by
  rw [Int32.le_iff_toInt_le, nI_toInt hk]
  show (k : Int) ≤ 0 ↔ k = 0
  omega
theorem x_choose {n c nF : Nat} {set : Int32} {al : Mw} {w : Nat → Nat} {τ0 : Mem} (h : LV (tm n τ0) nF n) (hw : ∀ f : Nat, f < nF → τ0 2 f = nI (w f) ∧ w f ≤ 9) :
    ∀ (k d e : Nat) (x : Nat → Nat) (s : Sp) (post : Mem → Prop) (τ : Mem), d + e = nF → 6 ≤ k + d → WY τ0 τ → cv_Ok d x → (∀ i : Nat, i < d → τ 8 i = nI (x i)) → cv_RI (tm n τ0) set nF n al d x (row (d + 1) τ) → cv_cs w nF (fun f => ls (row (d + 1) τ f)) < s.1 → cv_Rr nF τ s →
      (∀ ρ : Mem, WY τ ρ → (∀ e : Nat, e ≤ d + 1 → row e ρ = row e τ) → (∀ i : Nat, i < d → ρ 8 i = τ 8 i) → cv_Rr nF ρ (cv_bf (cv_P (tm n τ0) set n nF al) w nF e d x s) → post ρ) → q_X8_choose n c k post (nI (d + 1)) set τ := by
  have h5 := h.1
  intro k
  induction k with
  | zero => intro d e x s post τ h1 h2; omega
  | succ k ihk =>
    intro d e x s post τ hd h6 hW hx h8 hr hlt hs hp
    have hL : LV (tm n τ) nF n := hW.lv h
    have et : tm n τ = tm n τ0 := hW.etm
    have e1 : nI (d + 1) - 1 = nI d := nI_m1 (d := d + 1) (by omega)
    have hw2 : ∀ ρ : Mem, WY τ ρ → ∀ f : Nat, f < nF → ρ 2 f = nI (w f) := fun ρ hρ f hf => by rw [(hW.trans hρ).1.2 2 (by decide)]; exact (hw f hf).1
    show q_X8_choose_b _ _ _ _ _ _ _
    unfold q_X8_choose_b
    rw [e1, nfm hL]
    rintro _ rfl
    refine ⟨fun q => ?_, fun q => ?_⟩
    · have hdn : d < nF := by
        rcases Nat.lt_or_ge d nF with z | z
        · exact z
        · exact absurd (by rw [show d = nF by omega]) q
      obtain ⟨e', rfl⟩ : ∃ e' : Nat, e = e' + 1 := ⟨e - 1, by omega⟩
      have key : ∀ (m v : Nat) (s : Sp) (ρ : Mem), v + m = 8 → WY τ ρ → (∀ e : Nat, e ≤ d + 1 → row e ρ = row e τ) → (∀ i : Nat, i < d → ρ 8 i = τ 8 i) → cv_Rr nF ρ s →
          (∀ χ : Mem, WY τ χ → (∀ e : Nat, e ≤ d + 1 → row e χ = row e τ) → (∀ i : Nat, i < d → χ 8 i = τ 8 i) → cv_Rr nF χ (cv_lp (fun i s => cv_bf (cv_P (tm n τ0) set n nF al) w nF e' (d + 1) (cv_up x d i) s) m v s) → post χ) →
          lp_5 (q_X8_choose_49 n c (q_X8_choose n c k) post (q_X8_choose_145 n c (q_X8_choose n c k) post)) (m + 1) (nI (d + 1)) set (nI d) (nI v) ρ := by
        intro m
        induction m with
        | zero =>
          intro v s ρ hv hρ hrow hρ8 hsρ hp
          show q_X8_choose_49 _ _ _ _ _ _ _ _ _ _ _
          unfold q_X8_choose_49 q_X8_choose_145
          rw [show v = 8 by omega]
          exact ⟨fun _ => hp ρ hρ hrow hρ8 hsρ, fun z => absurd (by decide) z⟩
        | succ m ih =>
          intro v s ρ hv hρ hrow hρ8 hsρ hp
          unfold cv_lp at hp
          show q_X8_choose_49 _ _ _ _ _ _ _ _ _ _ _
          unfold q_X8_choose_49
          have nx : ∀ χ : Mem, WY τ χ → (∀ e : Nat, e ≤ d + 1 → row e χ = row e τ) → (∀ i : Nat, i < d → χ 8 i = τ 8 i) → cv_Rr nF χ (cv_bf (cv_P (tm n τ0) set n nF al) w nF e' (d + 1) (cv_up x d v) s) → q_X8_choose_139 n c (q_X8_choose n c k) post (q_X8_choose_145 n c (q_X8_choose n c k) post) (lp_5 (q_X8_choose_49 n c (q_X8_choose n c k) post (q_X8_choose_145 n c (q_X8_choose n c k) post)) (m + 1)) (nI (d + 1)) set (nI d) (nI v) χ := fun χ a b c' d' => by
            unfold q_X8_choose_139
            rintro _ rfl
            rw [nI_1]
            exact ih (v + 1) _ χ (by omega) a b c' d' hp
          have nx0 : (∀ y : Nat → Nat, cv_Ex (d + 1) (cv_up x d v) y → cv_Ok nF y → cv_P (tm n τ0) set n nF al y → s.1 ≤ cv_cs w nF y) → ∀ χ : Mem, WY τ χ → (∀ e : Nat, e ≤ d + 1 → row e χ = row e τ) → (∀ i : Nat, i < d → χ 8 i = τ 8 i) → cv_Rr nF χ s → q_X8_choose_139 n c (q_X8_choose n c k) post (q_X8_choose_145 n c (q_X8_choose n c k) post) (lp_5 (q_X8_choose_49 n c (q_X8_choose n c k) post (q_X8_choose_145 n c (q_X8_choose n c k) post)) (m + 1)) (nI (d + 1)) set (nI d) (nI v) χ := fun hno χ a b c' d' => nx χ a b c' (by
            rw [bf_stay e' (d + 1) (cv_up x d v) s (by omega) (ok_up hx (by omega)) hno]; exact d')
          have em : row (d + 1) ρ = row (d + 1) τ := hrow (d + 1) (Nat.le_refl _)
          refine ⟨fun z => absurd ((nI_leI (a := 8) (b := v) (by decide) (by omega)).mp z) (by omega), fun _ => s_canBe (by omega) (by omega) (fun r hbr => ⟨fun z => ?_, fun z => nx0 (fun y he ho hP => absurd hP (fun hP => ?_)) ρ hρ hrow hρ8 hsρ⟩)⟩
          · have hb := hbr.t z
            rw [em] at hb
            rw [nI_1]
            have r1 : row (d + 1 + 1) (put (d + 1 + 1) (row (d + 1) ρ) ρ) = row (d + 1) ρ := row_put (by rw [em]; exact hr.1)
            refine s_copy8 (by omega) (by omega) (s_only (by omega) (by omega) ?_)
            rw [r1, put_put, em]
            have hm2 := upd_RW (f := d) (x := row (d + 1) τ d &&& b1 v) hr.1 (by omega) (and_s8 (hr.1.2 d))
            show q_X8_meet n c _ (nI (d + 1 + 1)) set (put (d + 1 + 1) (upd (row (d + 1) τ) d (row (d + 1) τ d &&& b1 v)) ρ)
            have eρ : tm n ρ = tm n τ0 := (hW.trans hρ).etm
            refine s_meet (put_wy.lv ((hW.trans hρ).lv h)) (by omega) (by rw [row_put hm2]; exact hm2) ?_
            rw [row_put hm2, put_put, put_te.etm, eρ]
            have hm3 := mt_RW (set := set) h hm2
            have hχ : WY τ (put (d + 1 + 1) (mtF (tm n τ0) set nF n (upd (row (d + 1) τ) d (row (d + 1) τ d &&& b1 v))) ρ) := hρ.trans put_wy
            have hχr : ∀ e : Nat, e ≤ d + 1 → row e (put (d + 1 + 1) (mtF (tm n τ0) set nF n (upd (row (d + 1) τ) d (row (d + 1) τ d &&& b1 v))) ρ) = row e τ := fun e he => (row_put_ne (by omega)).trans (hrow e he)
            have hχ8 : ∀ i : Nat, i < d → put (d + 1 + 1) (mtF (tm n τ0) set nF n (upd (row (d + 1) τ) d (row (d + 1) τ d &&& b1 v))) ρ 8 i = τ 8 i := fun i hi => by rw [put_ne (by decide)]; exact hρ8 i hi
            have hχs : cv_Rr nF (put (d + 1 + 1) (mtF (tm n τ0) set nF n (upd (row (d + 1) τ) d (row (d + 1) τ d &&& b1 v))) ρ) s := by
              unfold cv_Rr
              rw [put_ne (by decide), put_ne (by decide)]
              exact hsρ
            have hχm : row (d + 1 + 1) (put (d + 1 + 1) (mtF (tm n τ0) set nF n (upd (row (d + 1) τ) d (row (d + 1) τ d &&& b1 v))) ρ) = mtF (tm n τ0) set nF n (upd (row (d + 1) τ) d (row (d + 1) τ d &&& b1 v)) := row_put hm3
            refine ⟨fun q1 => nx0 (fun y he ho hP => absurd hP (fun hP => ri_no h hr (by omega) (by omega) q1 he ho hP)) _ hχ hχr hχ8 hχs, fun q0 => ?_⟩
            have rs := ri_step h hr hx hdn (show v < 8 by omega) q0
            generalize put (d + 1 + 1) (mtF (tm n τ0) set nF n (upd (row (d + 1) τ) d (row (d + 1) τ d &&& b1 v))) ρ = χ at hχ hχr hχ8 hχs hχm ⊢
            generalize mtF (tm n τ0) set nF n (upd (row (d + 1) τ) d (row (d + 1) τ d &&& b1 v)) = m3 at hm3 hχm rs ⊢
            have e123 : cv_cs w nF (fun f => ls (m3 f)) < s.1 → q_X8_choose_123 n c (q_X8_choose n c k) post (q_X8_choose_145 n c (q_X8_choose n c k) post) (lp_5 (q_X8_choose_49 n c (q_X8_choose n c k) post (q_X8_choose_145 n c (q_X8_choose n c k) post)) (m + 1)) (nI (d + 1)) set (nI d) (nI v) χ := fun hl => by
              unfold q_X8_choose_123
              refine ⟨vin_j (by omega) (by decide), ?_⟩
              rintro _ rfl
              rw [nI_1, nI_clamp (show d < 2 ^ 31 by omega)]
              have hw3 : WY χ (mst χ 8 d (nI v)) := mstp_wy (by omega)
              have e7 : ∀ e : Nat, row e (mst χ 8 d (nI v)) = row e χ := fun e => row_e7 (mst_ne (by decide))
              refine ihk (d + 1) e' (cv_up x d v) s _ _ (by omega) (by omega) ((hW.trans hχ).trans hw3) (ok_up hx (by omega)) (fun i hi => ?_) (by rw [e7, hχm]; exact rs) (by rw [e7, hχm]; exact hl) ?_ (fun ω hω hωr hω8 hωs => ?_)
              · rw [mst_eq]
                by_cases e : i = d
                · rw [e, upd_eq, up_at]
                · rw [upd_ne e, up_lo e, hχ8 i (by omega)]; exact h8 i (by omega)
              · unfold cv_Rr
                rw [mst_ne (by decide), mst_ne (by decide)]
                exact hχs
              · refine nx ω ((hχ.trans hw3).trans hω) (fun e he => by rw [hωr e (by omega), e7, hχr e he]) (fun i hi => ?_) hωs
                rw [hω8 i (by omega), mst_eq, upd_ne (by omega)]
                exact hχ8 i hi
            obtain ⟨kk, k1, k2, k3⟩ := id hχs
            have l0 := le0_nI (k := kk) (by omega)
            rw [← k1] at l0
            refine ⟨fun z0 => e123 ?_, fun z0 => ?_⟩
            · have := l0.mp z0
              have c1 := cs_1000 (w := w) (x := fun f => ls (m3 f)) h5 (fun f hf => (hw f hf).2) (fun f _ => ls_8 _)
              omega
            · have kp : ¬ kk = 0 := fun y => z0 (l0.mpr y)
              rcases k3 with ⟨_, y⟩ | ⟨s1, _, s2, _⟩
              · exact absurd y kp
              · refine x_bnd ((hW.trans hχ).lv h) (by omega) (by rw [hχm]; exact hm3) (fun f hf => by rw [hχm]; exact rs.2.2.1 f hf) (hw2 χ hχ) ?_
                rw [hχm]
                have c1 := cs_1000 (w := w) (x := fun f => ls (m3 f)) h5 (fun f hf => (hw f hf).2) (fun f _ => ls_8 _)
                have lt := lt_nI (a := cv_cs w nF (fun f => ls (m3 f))) (n := s.1) (by omega) (by omega)
                rw [s2]
                exact ⟨fun y => e123 (lt.mp y), fun y => nx0 (fun yy he ho hP => by
                  have b := ri_bd (w := w) rs he ho hP
                  exact Nat.le_trans (Nat.le_of_not_lt (fun z => y (lt.mpr z))) b) χ hχ hχr hχ8 hχs⟩
          · have hb := hbr.f z
            rw [em] at hb
            exact ri_not hr hdn hb he ho hP
      unfold cv_bf at hp
      exact ⟨9, key 8 0 s τ rfl WY.rf (fun _ _ => rfl) (fun _ _ => rfl) hs hp⟩
    · have hdn : d = nF := nI_inj (by omega) (by omega) q
      subst hdn
      have ee : e = 0 := by omega
      subst ee
      refine x_bnd hL (by omega) hr.1 hr.2.2.1 (hw2 τ WY.rf) ?_
      have ec := ri_cs (w := w) hr hx
      rw [ec] at hlt ⊢
      rintro _ rfl _ rfl _ rfl
      rw [cpy5]
      refine hp _ (((mst0_wy (by omega)).trans (mst0_wy (by omega))).trans (mup_wy (by omega))) (fun e _ => row_e7 (by rw [mup_ne (by decide), mst_ne (by decide), mst_ne (by decide)])) (fun i _ => by rw [mup_ne (by decide), mst_ne (by decide), mst_ne (by decide)]) ?_
      unfold cv_bf
      rw [if_pos ⟨ri_leaf h hr hx, hlt⟩]
      obtain ⟨kk, k1, k2, k3⟩ := hs
      have c1 := cs_1000 (w := w) (x := x) h5 (fun f hf => (hw f hf).2) hx
      refine ⟨kk + 1, ?_, by show kk + 1 + cv_cs w _ x ≤ 1000; omega, Or.inr ⟨c1, by omega, ?_, fun f hf => ?_⟩⟩
      · rw [mup_ne (by decide), mst_eq, upd_eq, mst_eq, upd_ne (by decide), k1]
        exact nI_1 kk
      · rw [mup_ne (by decide), mst_eq, upd_ne (by decide), mst_eq, upd_eq]
      · rw [mup_eq, cp_lt (by omega), mst_ne (by decide), mst_ne (by decide)]
        exact h8 f hf
