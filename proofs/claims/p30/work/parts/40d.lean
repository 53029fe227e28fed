/-! isSo(m) -/
theorem or_dg : ∀ x : Nat, x < 32 → ∀ f : Nat, f < 5 → nI x ||| ((1 : Int32) <<< (nI f &&& 31)) = nI (x ||| 2 ^ f) ∧ x ||| 2 ^ f < 32 := by decide +kernel
theorem dg_32 {σ : Mem} {m : Nat} : ∀ (d f x : Nat), f + d ≤ 5 → x < 32 → ∃ y : Nat, y < 32 ∧ dgF σ m d f (nI x) = nI y := by
  intro d
  induction d with
  | zero => intro f x _ hx; exact ⟨x, hx, rfl⟩
  | succ d ih =>
    intro f x hf hx
    unfold dgF
    by_cases c : drP σ m f
    · rw [if_pos c, (or_dg x hx f (by omega)).1]
      exact ih (f + 1) _ (by omega) (or_dg x hx f (by omega)).2
    · rw [if_neg c]
      exact ih (f + 1) x (by omega) hx
theorem dg_no {σ : Mem} {m : Nat} : ∀ (d f : Nat) (x : Int32), (∀ i : Nat, f ≤ i → i < f + d → ¬ drP σ m i) → dgF σ m d f x = x := by
  intro d
  induction d with
  | zero => intro f x _; rfl
  | succ d ih =>
    intro f x h
    unfold dgF
    rw [if_neg (h f (Nat.le_refl _) (by omega))]
    exact ih (f + 1) x (fun i a b => h i (by omega) (by omega))
theorem dg_cut {σ : Mem} {m : Nat} : ∀ (d e f : Nat) (x : Int32), dgF σ m (d + e) f x = dgF σ m e (f + d) (dgF σ m d f x) := by
  intro d
  induction d with
  | zero => intro e f x; rw [Nat.zero_add]; rfl
  | succ d ih =>
    intro e f x
    rw [show d + 1 + e = (d + e) + 1 by omega]
    show dgF σ m (d + e) (f + 1) _ = dgF σ m e (f + (d + 1)) (dgF σ m d (f + 1) _)
    rw [ih e (f + 1) _, show f + 1 + d = f + (d + 1) by omega]
theorem sf_0 {σ : Mem} : ∀ (d f : Nat) (x : Int32), (∀ i : Nat, f ≤ i → i < f + d → σ 22 i = -1) → sfF σ d f x = x := by
  intro d
  induction d with
  | zero => intro f x _; rfl
  | succ d ih =>
    intro f x h
    unfold sfF
    rw [if_pos (h f (Nat.le_refl _) (by omega))]
    exact ih (f + 1) x (fun i a b => h i (by omega) (by omega))
theorem v_ofCommitE {σ : Mem} {nF nL nC : Nat} (h : V σ nF nL nC) {post : Int32 → Mem → Prop} {c f : Nat} {y : Int32} (e : y = nI c) (hc : c < nC) (hf : f < nF) (hp : post (σ (27 + c) f) σ) : q_X5_ofCommit post (fun _ _ => False) y (nI f) σ := by
  rw [e]
  exact v_ofCommit h hc hf hp
section SO
variable {g : Nat → Nat} {σ τ : Mem} {nF : Nat} {post : Int32 → Mem → Prop}
theorem no_dr (h : RR σ g τ nF) {m f : Nat} (hm : m < 6) (h1 : nF ≤ f) (h2 : f < 5) : ¬ drP σ m f := by
  have hb := h.bh f h1 h2
  rcases h.fl m hm with e | ⟨k, hk, e, -⟩
  · exact (h.tk hm).1 e f
  · intro z
    refine ((h.tk hm).2 k hk e f h2).mp z ?_
    rw [hb.1 m hm, hb.2 k hk]
theorem dg_nF (h : RR σ g τ nF) {m : Nat} (hm : m < 6) : dgF σ m nF 0 0 = dgF σ m 5 0 0 := by
  have h5 := h.lv.1
  have e := dg_cut (σ := σ) (m := m) nF (5 - nF) 0 0
  rw [show nF + (5 - nF) = 5 by omega, Nat.zero_add] at e
  rw [e]
  exact (dg_no _ _ _ (fun i a b => no_dr h hm a (by omega))).symm
theorem none_18 (h : RR σ g τ nF) (h0 : 0 < nF) (hc : ¬ σ 12 2 = 0) : σ 18 4 = -1 := by
  refine Classical.byContradiction (fun z => ?_)
  obtain ⟨j, hj, -, hb⟩ := best_may h z 0 h0
  rw [(may_0 h h0).mpr hc] at hb
  exact hasB_0 hj hb
theorem none_22 (h : RR σ g τ nF) (hc : ¬ σ 12 2 = 0) {f : Nat} (hf : f < nF) : σ 22 f = -1 := by
  refine Classical.byContradiction (fun z => ?_)
  obtain ⟨j, hj, -, hb⟩ := is_may h hf z
  rw [(may_0 h hf).mpr hc] at hb
  exact hasB_0 hj hb
theorem neg_22 (h : RR σ g τ nF) (f : Nat) : σ 22 f = -1 ↔ σ 22 f < 0 := by
  rcases h.ci.2.2.2.2.2.1 f with e | ⟨j, hj, e⟩
  · rw [e]; exact ⟨fun _ => by decide, fun _ => rfl⟩
  · rw [e]; exact ⟨fun z => absurd z (m1_nI (by omega)), fun z => absurd z (nneg8 j hj)⟩
/-- isNone, as the law has it -/
def isN (σ : Mem) : Int32 := if σ 12 2 = 0 then 0 else 1
theorem so_413 (h : RR σ g τ nF) (h0 : 0 < nF) (hp : post 1 σ) : q_L_isSo_413 post (isN σ) (sfF σ nF 0 0) σ := by
  have hV : V σ nF (g 0) (g 2) := ⟨g, τ, h, rfl, rfl⟩
  have ok : q_L_isSo_432 post σ := by
    unfold q_L_isSo_432 q_L_isSo_437
    exact ⟨bz1, hp⟩
  unfold q_L_isSo_413
  refine ⟨fun _ => ok, fun z => ?_⟩
  have hc : ¬ σ 12 2 = 0 := fun q => z (if_pos q)
  refine v_house hV 7 (by decide) ⟨fun w => absurd (none_18 h h0 hc) w, fun _ => ⟨fun w => absurd (sf_0 nF 0 0 (fun i _ hi => none_22 h hc (by omega))) w, fun _ => ok⟩⟩
theorem so_363 (h : RR σ g τ nF) (h0 : 0 < nF) (hp : post 1 σ) : q_L_isSo_363 post (isN σ) (cnL σ (g 0) 0 0) (sfF σ nF 0 0) (csF σ nF 0 0) (dmF σ 6 0 0) σ := by
  have hV : V σ nF (g 0) (g 2) := ⟨g, τ, h, rfl, rfl⟩
  unfold q_L_isSo_363
  refine v_house hV 2 (by decide) ⟨fun z => absurd rfl z, fun _ => v_house hV 4 (by decide) ⟨fun z => absurd rfl z, fun _ => v_house hV 6 (by decide) ⟨fun z => absurd rfl z, fun _ => v_house hV 7 (by decide) ⟨fun _ => so_413 h h0 hp, fun z => v_house hV 7 (by decide) ⟨fun w => absurd (cost_is h z).symm w, fun _ => so_413 h h0 hp⟩⟩⟩⟩⟩
theorem so_236 (h : RR σ g τ nF) (h0 : 0 < nF) (hp : post 1 σ) : q_L_isSo_236 post (nI nF) (isN σ) (cnL σ (g 0) 0 0) (sfF σ nF 0 0) (csF σ nF 0 0) σ := by
  have hV : V σ nF (g 0) (g 2) := ⟨g, τ, h, rfl, rfl⟩
  have h5 := h.lv.1
  unfold q_L_isSo_236
  have key : ∀ (d m : Nat) (x6 : Int32), m + d = 6 → dmF σ d m x6 = dmF σ 6 0 0 → lp_8 (q_L_isSo_242 post (q_L_isSo_355 post) (q_L_isSo_363 post)) (d + 1) (nI nF) (isN σ) (cnL σ (g 0) 0 0) (sfF σ nF 0 0) (csF σ nF 0 0) x6 (nI m) σ := by
    intro d
    induction d with
    | zero =>
      intro m x6 hm hx
      have e : m = 6 := by omega
      subst e
      show q_L_isSo_242 _ _ _ _ _ _ _ _ _ _ _ _
      unfold q_L_isSo_242
      refine ⟨fun _ => ?_, fun z => absurd (by decide) z⟩
      rw [show x6 = dmF σ 6 0 0 from hx]
      exact so_363 h h0 hp
    | succ d ih =>
      intro m x6 hm hx
      show q_L_isSo_242 _ _ _ _ _ _ _ _ _ _ _ _
      unfold q_L_isSo_242
      refine ⟨fun z => absurd z (nI_ge (b := 6) (by omega) (by decide)), fun _ => v_ofMachine hV 0 (by omega) (by decide) ?_⟩
      have hm6 : m < 6 := by omega
      have inner : ∀ (e f : Nat) (x9 : Int32), f + e = nF → dgF σ m e f x9 = dgF σ m nF 0 0 → lp_11 (q_L_isSo_264 post (q_L_isSo_313 post (q_L_isSo_355 post) (q_L_isSo_363 post) (lp_8 (q_L_isSo_242 post (q_L_isSo_355 post) (q_L_isSo_363 post)) (d + 1)))) (e + 1) (nI nF) (isN σ) (cnL σ (g 0) 0 0) (sfF σ nF 0 0) (csF σ nF 0 0) x6 (nI m) (σ 26 m) x9 (nI f) σ := by
        intro e
        induction e with
        | zero =>
          intro f x9 hf hx9
          have e9 : f = nF := by omega
          subst e9
          show q_L_isSo_264 _ _ _ _ _ _ _ _ _ _ _ _ _ _
          unfold q_L_isSo_264
          refine ⟨fun _ => ?_, fun z => absurd (nI_le (by omega) (by omega)) z⟩
          have ex : x9 = dgF σ m 5 0 0 := (show x9 = dgF σ m f 0 0 from hx9).trans (dg_nF h hm6)
          subst ex
          have fin : ∀ s0 : Int32, x6 + s0 = (if dgF σ m 5 0 0 = 0 then x6 else x6 + 1) → q_L_isSo_325 post (q_L_isSo_355 post) (q_L_isSo_363 post) (lp_8 (q_L_isSo_242 post (q_L_isSo_355 post) (q_L_isSo_363 post)) (d + 1)) s0 x6 (nI f) (isN σ) (cnL σ (g 0) 0 0) (sfF σ f 0 0) (csF σ f 0 0) (nI m) (dgF σ m 5 0 0) σ := fun s0 es => by
            unfold q_L_isSo_325
            intro v ev
            refine v_ofMachine hV 2 hm6 (by decide) ⟨fun z => absurd rfl z, fun _ => v_ofMachine hV 1 hm6 (by decide) (s_bitCount ⟨fun _ => ?_, fun z => absurd rfl z⟩)⟩
            intro v2 ev2
            rw [ev2, nI_1, ev, es]
            exact ih (m + 1) _ (by omega) hx
          obtain ⟨y, hy, ey⟩ := dg_32 (σ := σ) (m := m) 5 0 0 (by decide) (by decide)
          have ey : dgF σ m 5 0 0 = nI y := ey
          unfold q_L_isSo_313
          refine ⟨fun z => fin 0 ?_, fun z => fin 1 ?_⟩
          · rw [ey] at z
            have y0 : y = 0 := by
              rcases Nat.eq_zero_or_pos y with q | q
              · exact q
              · exact absurd z (nI_nle q (by omega))
            rw [if_pos (by rw [ey, y0]; rfl), Int32.add_zero]
          · rw [if_neg (fun q => z (by rw [q]; decide))]
        | succ e ih2 =>
          intro f x9 hf hx9
          show q_L_isSo_264 _ _ _ _ _ _ _ _ _ _ _ _ _ _
          unfold q_L_isSo_264 q_L_isSo_303 q_L_isSo_304
          refine ⟨fun z => absurd z (nI_ge (by omega) (by omega)), fun _ => ?_⟩
          have go : ∀ s0 : Int32, x9 ||| s0 = (if drP σ m f then x9 ||| ((1 : Int32) <<< (nI f &&& 31)) else x9) → ∀ v : Int32, v = x9 ||| s0 → ∀ v2 : Int32, v2 = nI f + 1 → lp_11 (q_L_isSo_264 post (q_L_isSo_313 post (q_L_isSo_355 post) (q_L_isSo_363 post) (lp_8 (q_L_isSo_242 post (q_L_isSo_355 post) (q_L_isSo_363 post)) (d + 1)))) (e + 1) (nI nF) (isN σ) (cnL σ (g 0) 0 0) (sfF σ nF 0 0) (csF σ nF 0 0) x6 (nI m) (σ 26 m) v v2 σ := fun s0 es v ev v2 ev2 => by
            rw [ev2, nI_1, ev, es]
            exact ih2 (f + 1) _ (by omega) hx9
          refine ⟨fun z => go 0 ?_, fun z => ?_⟩
          · rw [if_neg (fun q => q.1 z)]
            exact Int32.or_zero
          · rcases h.ci.2.2.2.2.2.2 m hm6 with q | q
            · rw [q] at z; exact absurd (by decide) z
            · obtain ⟨c, hc, ec⟩ := vin_ex (by have := h.ci.2.1; omega) q
              have h12 := h.ci.2.1
              have er : drP σ m f ↔ ¬ σ (39 + m) f = σ (27 + c) f := by
                constructor
                · rintro ⟨-, -, w⟩
                  rw [ec, nI_clamp (by omega)] at w
                  exact w
                · intro w
                  refine ⟨z, ?_, ?_⟩
                  · rw [h.ci.nc, ec]; exact nI_ge hc (by omega)
                  · rw [ec, nI_clamp (by omega)]; exact w
              refine v_has hV hm6 (by omega) ?_
              refine v_ofCommitE hV ec hc (by omega) ⟨fun w => go 0 ?_, fun w => go _ ?_⟩
              · rw [if_neg (fun q => (er.mp q) w)]; exact Int32.or_zero
              · rw [if_pos (er.mpr w)]
      exact ⟨nF + 1, inner nF 0 0 (Nat.zero_add _) rfl⟩
  exact ⟨7, key 6 0 0 rfl rfl⟩
theorem so_58 (h : RR σ g τ nF) (h0 : 0 < nF) (hp : post 1 σ) : q_L_isSo_58 post (nI nF) (isN σ) (cnL σ (g 0) 0 0) 0 0 σ := by
  have hV : V σ nF (g 0) (g 2) := ⟨g, τ, h, rfl, rfl⟩
  have h5 := h.lv.1
  unfold q_L_isSo_58
  have key : ∀ (d f : Nat) (x4 x5 : Int32), f + d = nF → sfF σ d f x4 = sfF σ nF 0 0 → csF σ d f x5 = csF σ nF 0 0 → lp_7 (q_L_isSo_61 post (q_L_isSo_228 post) (q_L_isSo_236 post)) (d + 1) (nI nF) (isN σ) (cnL σ (g 0) 0 0) x4 x5 (nI f) σ := by
    intro d
    induction d with
    | zero =>
      intro f x4 x5 hf e4 e5
      have e : f = nF := by omega
      subst e
      show q_L_isSo_61 _ _ _ _ _ _ _ _ _ _ _
      unfold q_L_isSo_61
      refine ⟨fun _ => ?_, fun z => absurd (nI_le (by omega) (by omega)) z⟩
      rw [show x4 = sfF σ f 0 0 from e4, show x5 = csF σ f 0 0 from e5]
      exact so_236 h h0 hp
    | succ d ih =>
      intro f x4 x5 hf e4 e5
      have hfn : f < nF := by omega
      have hb := best_c h hfn
      show q_L_isSo_61 _ _ _ _ _ _ _ _ _ _ _
      unfold q_L_isSo_61
      refine ⟨fun z => absurd z (nI_ge (by omega) (by omega)), fun _ => v_ofField hV 1 hfn (by decide) (v_ofField hV 3 hfn (by decide) (v_ofField hV 5 hfn (by decide) ?_))⟩
      show (σ 22 f < 0 → q_L_isSo_106 _ _ _ _ 0 x4 _ _ _ x5 _ (σ 13 f) (σ 22 f) (σ 21 f) σ) ∧ (¬ σ 22 f < 0 → q_L_isSo_106 _ _ _ _ 1 x4 _ _ _ x5 _ (σ 13 f) (σ 22 f) (σ 21 f) σ)
      have e210 : ∀ x4' x5' s : Int32, sfF σ d (f + 1) x4' = sfF σ nF 0 0 → csF σ d (f + 1) x5' = csF σ nF 0 0 → q_L_isSo_210 post (q_L_isSo_228 post) (q_L_isSo_236 post) (lp_7 (q_L_isSo_61 post (q_L_isSo_228 post) (q_L_isSo_236 post)) (d + 1)) s s (nI nF) (isN σ) (cnL σ (g 0) 0 0) x4' x5' (nI f) (σ 13 f) σ := fun x4' x5' s a b => by
        unfold q_L_isSo_210
        refine ⟨fun z => absurd rfl z, fun _ => v_ofField hV 2 hfn (by decide) (s_bitCount ⟨fun _ => ?_, fun z => absurd rfl z⟩)⟩
        intro v ev
        rw [ev, nI_1]
        exact ih (f + 1) x4' x5' (by omega) a b
      have e186 : ∀ x4' x5' : Int32, sfF σ d (f + 1) x4' = sfF σ nF 0 0 → csF σ d (f + 1) x5' = csF σ nF 0 0 → q_L_isSo_186 post (q_L_isSo_228 post) (q_L_isSo_236 post) (lp_7 (q_L_isSo_61 post (q_L_isSo_228 post) (q_L_isSo_236 post)) (d + 1)) (nI nF) (isN σ) (cnL σ (g 0) 0 0) x4' x5' (nI f) (σ 13 f) (σ 21 f) σ := fun x4' x5' a b => by
        unfold q_L_isSo_186 q_L_isSo_196
        refine ⟨fun z => v_house hV 7 (by decide) ⟨fun _ => e210 _ _ 0 a b, fun w => absurd (hb.1.mp z) w⟩, fun z => v_house hV 7 (by decide) ⟨fun w => absurd (hb.1.mpr w) z, fun _ => e210 _ _ 1 a b⟩⟩
      have e171 : ∀ x4' x5' : Int32, sfF σ d (f + 1) x4' = sfF σ nF 0 0 → csF σ d (f + 1) x5' = csF σ nF 0 0 → q_L_isSo_171 post (q_L_isSo_228 post) (q_L_isSo_236 post) (lp_7 (q_L_isSo_61 post (q_L_isSo_228 post) (q_L_isSo_236 post)) (d + 1)) (nI nF) (isN σ) (cnL σ (g 0) 0 0) x4' x5' (nI f) (σ 13 f) (σ 21 f) σ := fun x4' x5' a b => by
        unfold q_L_isSo_171
        exact ⟨fun _ => e186 _ _ a b, fun z => ⟨fun w => absurd w (hb.2 z), fun _ => e186 _ _ a b⟩⟩
      have e157 : ∀ x4' x5' : Int32, sfF σ d (f + 1) x4' = sfF σ nF 0 0 → csF σ d (f + 1) x5' = csF σ nF 0 0 → q_L_isSo_157 post (q_L_isSo_228 post) (q_L_isSo_236 post) (lp_7 (q_L_isSo_61 post (q_L_isSo_228 post) (q_L_isSo_236 post)) (d + 1)) (nI nF) (isN σ) (cnL σ (g 0) 0 0) x4' x5' (nI f) (σ 13 f) (σ 22 f) (σ 21 f) σ := fun x4' x5' a b => by
        unfold q_L_isSo_157
        exact s_bitCount ⟨fun _ => e171 _ _ a b, fun z => ⟨fun w => absurd w (own_one h hfn z), fun _ => e171 _ _ a b⟩⟩
      have e138 : ∀ s0 x4' x5' : Int32, s0 = isN σ → sfF σ d (f + 1) x4' = sfF σ nF 0 0 → csF σ d (f + 1) x5' = csF σ nF 0 0 → q_L_isSo_138 post (q_L_isSo_228 post) (q_L_isSo_236 post) (lp_7 (q_L_isSo_61 post (q_L_isSo_228 post) (q_L_isSo_236 post)) (d + 1)) s0 (nI nF) (isN σ) (cnL σ (g 0) 0 0) x4' x5' (nI f) (σ 13 f) (σ 22 f) (σ 21 f) σ := fun s0 x4' x5' es a b => by
        unfold q_L_isSo_138
        exact ⟨fun z => absurd es z, fun _ => ⟨fun _ => e157 _ _ a b, fun z => ⟨fun w => absurd w (own_is h hfn z), fun _ => e157 _ _ a b⟩⟩⟩
      have e106 : ∀ s0 : Int32, x4 + s0 = (if σ 22 f = -1 then x4 else x4 + 1) → q_L_isSo_106 post (q_L_isSo_228 post) (q_L_isSo_236 post) (lp_7 (q_L_isSo_61 post (q_L_isSo_228 post) (q_L_isSo_236 post)) (d + 1)) s0 x4 (nI nF) (isN σ) (cnL σ (g 0) 0 0) x5 (nI f) (σ 13 f) (σ 22 f) (σ 21 f) σ := fun s0 es => by
        unfold q_L_isSo_106
        intro v ev
        refine v_ofField hV 4 hfn (by decide) ?_
        intro v5 ev5
        have a : sfF σ d (f + 1) v = sfF σ nF 0 0 := by rw [ev, es]; exact e4
        have b : csF σ d (f + 1) v5 = csF σ nF 0 0 := by rw [ev5]; exact e5
        refine ⟨fun z => e138 0 _ _ ?_ a b, fun z => e138 1 _ _ ?_ a b⟩
        · unfold isN
          rw [if_pos (Classical.byContradiction (fun q => z ((may_0 h hfn).mpr q)))]
        · unfold isN
          rw [if_neg ((may_0 h hfn).mp z)]
      refine ⟨fun z => e106 0 ?_, fun z => e106 1 ?_⟩
      · rw [if_pos ((neg_22 h f).mpr z), Int32.add_zero]
      · rw [if_neg (fun q => z ((neg_22 h f).mp q))]
  exact ⟨nF + 1, key nF 0 0 0 (Nat.zero_add _) rfl rfl⟩
theorem t_isSo (h : RR σ g τ nF) (h0 : 0 < nF) (hp : post 1 σ) : q_L_isSo post σ := by
  have hV : V σ nF (g 0) (g 2) := ⟨g, τ, h, rfl, rfl⟩
  have h30 := h.ci.lv.2.1
  have e20 : q_L_isSo_20 post (isN σ) (nI nF) σ := by
    unfold q_L_isSo_20
    have key : ∀ (d j : Nat) (x3 : Int32), j + d = g 0 → cnL σ d j x3 = cnL σ (g 0) 0 0 → lp_7 (q_L_isSo_32 post (q_L_isSo_58 post)) (d + 1) (nI nF) (isN σ) x3 0 0 (nI j) σ := by
      intro d
      induction d with
      | zero =>
        intro j x3 hj e3
        show q_L_isSo_32 _ _ _ _ _ _ _ _ _ _
        unfold q_L_isSo_32
        refine v_house hV 1 (by decide) ⟨fun _ => ?_, fun z => absurd (show hoA σ nF (g 0) (g 2) 1 ≤ nI j from nI_le (by omega) (by omega)) z⟩
        rw [show x3 = cnL σ (g 0) 0 0 from e3]
        exact so_58 h h0 hp
      | succ d ih =>
        intro j x3 hj e3
        show q_L_isSo_32 _ _ _ _ _ _ _ _ _ _
        unfold q_L_isSo_32
        refine v_house hV 1 (by decide) ⟨fun z => absurd (show nI (g 0) ≤ nI j from z) (nI_ge (by omega) (by omega)), fun _ => v_ofLine hV 5 (by omega) (by decide) ?_⟩
        intro v ev v2 ev2
        have e : v = (if ctP σ j then x3 + 1 else x3) := by
          rw [ev]
          show x3 + (if ctP σ j then (1 : Int32) else 0) = _
          by_cases c : ctP σ j
          · rw [if_pos c, if_pos c]
          · rw [if_neg c, if_neg c, Int32.add_zero]
        rw [ev2, nI_1, e]
        exact ih (j + 1) _ (by omega) e3
    exact ⟨g 0 + 1, key (g 0) 0 0 (Nat.zero_add _) rfl⟩
  unfold q_L_isSo
  refine v_house hV 0 (by decide) (v_house hV 3 (by decide) ⟨fun z => ?_, fun z => ?_⟩)
  · have e : isN σ = 0 := by
      unfold isN
      by_cases c : σ 12 2 = 0
      · exact if_pos c
      · exact absurd (show hoA σ nF (g 0) (g 2) 3 = 1 from if_neg c) z
    rw [e] at e20
    exact e20
  · have e : isN σ = 1 := z
    rw [e] at e20
    exact e20
end SO
