/-! p30: THE CLASS ALONE. The reference beside it is only thought of -/
def V (σ : Mem) (nF nL nC : Nat) : Prop := ∃ (g : Nat → Nat) (τ : Mem), RR σ g τ nF ∧ g 0 = nL ∧ g 2 = nC
theorem rr_start : RR sI (fun _ => 0) tI 0 := by
  refine (RR.mk (ci := ci_0) (lv := ⟨by decide, by decide, rfl, rfl, fun j hj => absurd hj (Nat.not_lt_zero j)⟩) (ag := fun p j a b c => ?_) (fr := fun j _ _ => ⟨tI_z _ (by omega) (by omega) 5, tI_z _ (by omega) (by omega) 6⟩) (oi := ⟨fun i _ => ⟨sI_lo 13 (by decide) i, sI_lo 17 (by decide) i⟩, rfl, fun f _ hf => sI_22 f hf, fun h => absurd h (Nat.not_lt_zero 0)⟩) (fl := fun m hm => Or.inl (tI_5 m hm)) (co := fun m hm => by rw [sI_26 m hm, tI_5 m hm]) (ha := fun m f a b => by rw [sI_39 m a f b, tI_6 _ (by omega)]) (kp := fun k f hk => absurd hk (Nat.not_lt_zero k)) (kn := rfl) (bh := fun f a b => ⟨fun m hm => tI_6 _ (by omega), fun k hk => absurd hk (Nat.not_lt_zero k)⟩) (te := fun f hf => absurd hf (Nat.not_lt_zero f)) (bw := ⟨fun f hf => absurd hf (Nat.not_lt_zero f), rfl, Or.inl ⟨by unfold cv_bS; rw [if_pos rfl], rfl, fun f hf => sI_21 f hf⟩⟩))
  rw [sI_lo p (by omega) j]
  unfold tm
  show (0 : Int32) = if p = 1 then (if j = 9 then tI 0 3 else if j = 10 then nI 0 else 0) else _
  rw [tI_z 0 (by decide) (by decide), tI_z 1 (by decide) (by decide), tI_z 2 (by decide) (by decide), tI_z (100 + j) (by omega) (by omega), tI_z (100 + j) (by omega) (by omega), tI_z (100 + j) (by omega) (by omega), tI_z (100 + j) (by omega) (by omega), tI_z (100 + j) (by omega) (by omega), tI_z (100 + j) (by omega) (by omega), tI_z (100 + j) (by omega) (by omega)]
  show (0 : Int32) = if p = 1 then (if j = 9 then 0 else if j = 10 then 0 else 0) else _
  simp
theorem V.start : V sI 0 0 0 := ⟨_, _, rr_start, rfl, rfl⟩
section VV
variable {σ χ : Mem} {nF nL nC : Nat}
theorem V.ci (h : V σ nF nL nC) : CI σ nF nL nC := by
  obtain ⟨g, τ, h, rfl, rfl⟩ := h
  exact h.ci
theorem V.ae (h : V σ nF nL nC) (ha : AE σ χ) : V χ nF nL nC := by
  obtain ⟨g, τ, h, rfl, rfl⟩ := h
  exact ⟨g, τ, h.ae ha, rfl, rfl⟩
theorem V.team (h : V σ nF nL nC) {f : Nat} (hf : f < nF) : vp_in (σ 2 f) 4 := by
  obtain ⟨g, τ, h, rfl, rfl⟩ := h
  have h5 := h.lv.1
  rw [h.ag 2 f (by decide) (by decide) (by omega)]
  exact h.te f hf
theorem V.field (h : V σ nF nL nC) (hlt : nF < 5) {x : Int32} (hx : vp_in x 4) : V (rnw (nF + 1) nL (fdM nF x σ)) (nF + 1) nL nC := by
  obtain ⟨g, τ, h, rfl, rfl⟩ := h
  exact ⟨g, _, (rr_field h hlt hx).1, rfl, rfl⟩
theorem V.tell (h : V σ nF nL nC) (hlt : nL < 30) {kd by_ ab sd bs : Int32} (hk : lnOk nF kd ab sd bs) : V (rnw nF (nL + 1) (lnN nL kd by_ ab sd bs σ)) nF (nL + 1) nC := by
  obtain ⟨g, τ, h, rfl, rfl⟩ := h
  exact ⟨fun i => if i = 0 then g 0 + 1 else g i, _, (rr_tell (g1 := fun i => if i = 0 then g 0 + 1 else g i) h hlt rfl rfl hk).1, rfl, rfl⟩
theorem V.mk9 (h : V σ nF nL nC) {j : Nat} {y : Int32} (hj : j < nL) : V (rnw nF nL (mst σ 9 j y)) nF nL nC := by
  obtain ⟨g, τ, h, rfl, rfl⟩ := h
  exact ⟨g, _, rr_mk h hj (Or.inl ⟨rfl, rfl⟩), rfl, rfl⟩
theorem V.mk10 (h : V σ nF nL nC) {j : Nat} {y : Int32} (hj : j < nL) : V (rnw nF nL (mst σ 10 j y)) nF nL nC := by
  obtain ⟨g, τ, h, rfl, rfl⟩ := h
  exact ⟨g, _, rr_mk h hj (Or.inr ⟨rfl, rfl⟩), rfl, rfl⟩
theorem V.wt (h : V σ nF nL nC) {f : Nat} {y : Int32} (hf : f < 5) (hy : vp_in y 10) : V (rnw nF nL (mst σ 3 f y)) nF nL nC := by
  obtain ⟨g, τ, h, rfl, rfl⟩ := h
  exact ⟨g, _, rr_wt h hf hy, rfl, rfl⟩
theorem V.patch (h : V σ nF nL nC) {m f : Nat} {y : Int32} (hm : m < 6) (hf : f < nF) (hy : vp_in y 8) : V (mup σ (39 + m) (upd (σ (39 + m)) f y)) nF nL nC := by
  obtain ⟨g, τ, h, rfl, rfl⟩ := h
  exact ⟨g, _, rr_patch h hm hf hy, rfl, rfl⟩
theorem V.bring (h : V σ nF nL nC) {m c : Nat} (hm : m < 6) (hc : c < nC) : V (brM σ m c) nF nL nC := by
  obtain ⟨g, τ, h, rfl, rfl⟩ := h
  refine ⟨g, fun p => if p = 5 then upd (τ 5) m (nI c) else if p = 6 then (fun i => if 5 * m ≤ i ∧ i < 5 * m + 5 then τ (200 + c) (i - 5 * m) else τ 6 i) else τ p, rr_bring h hm hc (fun p a b => ?_) rfl (fun i => rfl), rfl, rfl⟩
  show (if p = 5 then upd (τ 5) m (nI c) else if p = 6 then (fun i => if 5 * m ≤ i ∧ i < 5 * m + 5 then τ (200 + c) (i - 5 * m) else τ 6 i) else τ p) = τ p
  rw [if_neg a, if_neg b]
theorem V.commit (h : V σ nF nL nC) (hlt : nC < 12) : V (kpM nC σ) nF nL (nC + 1) := by
  obtain ⟨g, τ, h, rfl, rfl⟩ := h
  exact ⟨fun i => if i = 2 then g 2 + 1 else g i, _, rr_commit (g1 := fun i => if i = 2 then g 2 + 1 else g i) (wr := σ 22) (y := 0) h hlt rfl rfl (fun _ _ => rfl), rfl, rfl⟩
theorem V.wave {c : Nat} {set : Int32} : ∀ (d m : Nat) (x : Int32) (σ : Mem), m + d ≤ 6 → c < nC → V σ nF nL nC → V (wvF c set d m x σ).2 nF nL nC := by
  intro d
  induction d with
  | zero => intro m x σ _ _ h; exact h
  | succ d ih =>
    intro m x σ hm hc h
    unfold wvF
    split
    · exact ih _ _ _ (by omega) hc h
    · exact ih _ _ _ (by omega) hc (h.bring (by omega) hc)
theorem sw_nI {w n : Nat} (h : w < n) (hn : n < 2 ^ 31) : ¬ sw_out (nI w) n := by
  intro z
  unfold sw_out at z
  rw [nI_toInt (by omega)] at z
  omega
theorem v_house (h : V σ nF nL nC) {post : Int32 → Mem → Prop} (w : Nat) (hw : w < 9) (hp : post (hoA σ nF nL nC w) σ) : q_X5_house post (fun _ _ => False) (nI w) σ :=
  s_X5_house h.ci (fun z => sw_nI hw (by decide) z) (fun w' hw' e => by
    have e9 := nI_inj (by omega) (by omega) e
    subst e9
    exact hp)
theorem v_ofField (h : V σ nF nL nC) {post : Int32 → Mem → Prop} {f : Nat} (w : Nat) (hf : f < nF) (hw : w < 7) (hp : post (fdA σ nC f w) σ) : q_X5_ofField post (fun _ _ => False) (nI f) (nI w) σ := by
  have h5 := h.ci.lv.1
  refine s_X5_ofField h.ci (fun z => z (vin_j hf (by omega))) (fun _ z => sw_nI hw (by decide) z) (fun f' hf' e w' hw' e' => ?_)
  have e9 := nI_inj (by omega) (by omega) e
  have e8 := nI_inj (by omega) (by omega) e'
  subst e9
  subst e8
  exact hp
theorem v_ofLine (h : V σ nF nL nC) {post : Int32 → Mem → Prop} {j : Nat} (w : Nat) (hj : j < nL) (hw : w < 7) (hp : post (liA σ nF nL j w) (if w = 6 then (rsF nF nL (-1) σ).2 else σ)) : q_X5_ofLine post (fun _ _ => False) (nI j) (nI w) σ := by
  have h30 := h.ci.lv.2.1
  refine s_X5_ofLine h.ci (fun z => z (vin_j hj (by omega))) (fun _ z => sw_nI hw (by decide) z) (fun f' hf' e w' hw' e' => ?_)
  have e9 := nI_inj (by omega) (by omega) e
  have e8 := nI_inj (by omega) (by omega) e'
  subst e9
  subst e8
  exact hp
theorem v_ofMachine (h : V σ nF nL nC) {post : Int32 → Mem → Prop} {m : Nat} (w : Nat) (hm : m < 6) (hw : w < 3) (hp : post (mcA σ m w) σ) : q_X5_ofMachine post (fun _ _ => False) (nI m) (nI w) σ := by
  refine s_X5_ofMachine h.ci (fun z => z (vin_j hm (by decide))) (fun _ z => sw_nI hw (by decide) z) (fun f' hf' e w' hw' e' => ?_)
  have e9 := nI_inj (by omega) (by omega) e
  have e8 := nI_inj (by omega) (by omega) e'
  subst e9
  subst e8
  exact hp
theorem v_has (h : V σ nF nL nC) {post : Int32 → Mem → Prop} {m f : Nat} (hm : m < 6) (hf : f < nF) (hp : post (σ (39 + m) f) σ) : q_X5_has post (fun _ _ => False) (nI m) (nI f) σ := by
  have h5 := h.ci.lv.1
  refine s_X5_has h.ci (fun z => z ⟨vin_j hm (by decide), vin_j hf (by omega)⟩) (fun m' f' hm' hf' e e' => ?_)
  have e9 := nI_inj (by omega) (by omega) e
  have e8 := nI_inj (by omega) (by omega) e'
  subst e9
  subst e8
  exact hp
theorem v_ofCommit (h : V σ nF nL nC) {post : Int32 → Mem → Prop} {c f : Nat} (hc : c < nC) (hf : f < nF) (hp : post (σ (27 + c) f) σ) : q_X5_ofCommit post (fun _ _ => False) (nI c) (nI f) σ := by
  have h5 := h.ci.lv.1
  have h12 := h.ci.2.1
  refine s_X5_ofCommit h.ci (fun z => z ⟨vin_j hc (by omega), vin_j hf (by omega)⟩) (fun m' f' hm' hf' e e' => ?_)
  have e9 := nI_inj (by omega) (by omega) e
  have e8 := nI_inj (by omega) (by omega) e'
  subst e9
  subst e8
  exact hp
end VV
/-! below(v, n): the rest of v without its sign -/
theorem pos_and (x : Int32) : ∃ a : Nat, a < 2 ^ 31 ∧ x &&& 2147483647 = nI a := by
  refine ⟨(x.toBitVec &&& 2147483647#32).toNat, ?_, ?_⟩
  · rw [BitVec.toNat_and]
    exact Nat.lt_of_le_of_lt Nat.and_le_right (by decide)
  · apply Int32.toBitVec_inj.mp
    show x.toBitVec &&& 2147483647#32 = BitVec.ofNat 32 (x.toBitVec &&& 2147483647#32).toNat
    rw [BitVec.ofNat_toNat, BitVec.setWidth_eq]
theorem nI_div {a n : Nat} (ha : a < 2 ^ 31) (hn : n < 2 ^ 31) : nI a / nI n = nI (a / n) := by
  apply Int32.toInt_inj.mp
  have h1 : a / n ≤ a := Nat.div_le_self a n
  rw [Int32.toInt_div, nI_toInt ha, nI_toInt hn, nI_toInt (by omega)]
  have e : ((a : Int).tdiv (n : Int)) = ((a / n : Nat) : Int) := by
    rw [Int.ofNat_tdiv]
  rw [e]
  generalize a / n = q at h1 ⊢
  rw [Int.bmod_def]
  have h2 : ((q : Int) % ((2 ^ 32 : Nat) : Int)) = (q : Int) := Int.emod_eq_of_lt (by omega) (by omega)
  rw [h2]
  split
  · rfl
  · omega
theorem nI_rem {a n : Nat} (ha : a < 2 ^ 31) (hn : n < 2 ^ 31) : nI a - nI a / nI n * nI n = nI (a % n) := by
  rw [nI_div ha hn, nI_mul]
  have h : nI (a % n) + nI (a / n * n) = nI a := by
    rw [nI_add, show a % n + a / n * n = a from by rw [Nat.mul_comm]; exact Nat.mod_add_div a n]
  rw [← h]
  exact Int32.add_sub_cancel _ _
theorem s_below {post : Int32 → Mem → Prop} {x y : Int32} {σ : Mem} (n : Nat) (e : y = nI n) (h0 : 0 < n) (hn : n < 2 ^ 31) (hp : ∀ r : Nat, r < n → post (nI r) σ) : q_L_below post x y σ := by
  subst e
  obtain ⟨a, ha, ea⟩ := pos_and x
  unfold q_L_below
  rw [ea, nI_rem ha hn]
  exact ⟨nI_ne0 h0 hn, hp _ (Nat.mod_lt a h0)⟩
theorem m15 : ∀ q : Nat, q < 15 → ¬ nI q - 7 < -7 ∧ nI q - 7 ≤ 7 := by decide +kernel
theorem m5 : ∀ q : Nat, q < 5 → ¬ nI q - 2 < -7 ∧ nI q - 2 ≤ 7 := by decide +kernel
theorem m7 : ∀ q : Nat, q < 8 → vp_in ((7 : Int32) - nI q) 8 := by
  intro q hq
  have h : ∀ q : Nat, q < 8 → (7 : Int32) - nI q = nI (7 - q) := by decide +kernel
  rw [h q hq]
  exact vin_j (by omega) (by decide)
theorem lo10 {x : Int32} (h1 : ¬ x < 0) (h2 : x ≤ 9) : vp_in x 10 := vin_lo (by decide) h1 (fun q => by
  rw [Int32.le_iff_toInt_le] at q h2
  have e1 : (9 : Int32).toInt = 9 := by decide
  have e2 : (nI 10).toInt = 10 := by decide
  omega)
/-! tell(m, x) -/
section TT
variable {σ : Mem} {nF nL nC : Nat} {post : Int32 → Mem → Prop}
theorem hk_0 {f r : Nat} (hf : f < nF) (h5 : nF ≤ 5) (hr : r < 255) : lnOk nF 0 (nI f) (1 + nI r) 0 := by
  refine ⟨vin_j hf (by omega), vin_6 0 (by decide), fun k => by rcases k with k | k <;> exact absurd k (by decide), fun _ => ?_, fun k => by rcases k with k | k | k <;> exact absurd k (by decide), fun k => absurd k (by decide)⟩
  rw [show (1 : Int32) + nI r = nI (1 + r) from nI_add 1 r]
  exact and255 _ (by omega)
theorem t_61 {f d : Nat} {s0 x : Int32} (h : V σ nF nL nC) (hs : vp_in s0 4) (hf : f < nF) (hd : d < nF) (hne : d ≠ f)
    (hp : ∀ σ' : Mem, nL < 30 → V σ' nF (nL + 1) nC → (∀ p : Nat, 22 < p → σ' p = σ p) → post 1 σ') (h30 : nL = 30 → post 1 σ) : q_L_tell_61 post s0 x (nI f) (nI d) σ := by
  have h5 := h.ci.lv.1
  have hvf : vp_in (nI f) nF := vin_j hf (by omega)
  have hvd : vp_in (nI d) nF := vin_j hd (by omega)
  have hfd : ¬ nI f = nI d := fun e => hne (nI_inj (by omega) (by omega) e).symm
  have fin : ∀ kd by_ ab sd bs : Int32, nL < 30 → lnOk nF kd ab sd bs → q_L_tell_293 post (rnw nF (nL + 1) (lnN nL kd by_ ab sd bs σ)) := fun kd by_ ab sd bs hlt hk => by
    unfold q_L_tell_293
    exact hp _ hlt (h.tell hlt hk) (fun p hp => by rw [rnw_fr (Or.inr hp), lnN_hi (Or.inl (by omega))])
  have thr : nL = 30 → (xIS = eIS ∧ q_L_tell_297 post σ) := fun e => by
    refine ⟨rfl, ?_⟩
    unfold q_L_tell_297 q_L_tell_312
    refine v_house h 1 (by decide) ⟨fun z => absurd (show hoA σ nF nL nC 1 = 30 from by rw [e]; rfl) z, fun _ => ⟨bz1, h30 e⟩⟩
  have more : ∀ y : Int32, ¬ y < -7 → y ≤ 7 → q_L_tell_227 post y (nI d) (nI f) s0 σ := fun y a b => by
    unfold q_L_tell_227
    refine s_X5_more h.ci (fun z => (z ⟨hvf, hvd⟩).elim) (fun _ z => (z ⟨hs, hfd, a, b⟩).elim) (fun _ _ e => thr e) (fun a b c => fin 3 _ _ _ _ c ⟨a.1, vin_6 3 (by decide), fun _ => ⟨a.2, fun z => b.2.1 z.symm⟩, fun k => absurd k (by decide), fun k => by rcases k with k | k | k <;> exact absurd k (by decide), fun k => absurd k (by decide)⟩)
  have unl : q_X5_unlike (fun (_ : Int32) (σ1 : Mem) => q_L_tell_293 post σ1) (fun (E : String) (σ1 : Mem) => (E = eIS ∧ q_L_tell_297 post σ1)) s0 (nI f) (nI d) σ :=
    s_X5_unlike h.ci (fun z => (z ⟨hvf, hvd⟩).elim) (fun _ z => (z ⟨hs, hfd⟩).elim) (fun _ _ e => thr e) (fun a b c => fin 4 _ _ _ _ c ⟨a.1, vin_6 4 (by decide), fun _ => ⟨a.2, fun z => b.2 z.symm⟩, fun k => absurd k (by decide), fun k => by rcases k with k | k | k <;> exact absurd k (by decide), fun k => absurd k (by decide)⟩)
  have bnd : ∀ (y b9 : Int32), vp_in y 8 → q_X5_bound (fun (_ : Int32) (σ1 : Mem) => q_L_tell_293 post σ1) (fun (E : String) (σ1 : Mem) => (E = eIS ∧ q_L_tell_297 post σ1)) s0 (nI f) y b9 σ := fun y b9 hy =>
    s_X5_bound h.ci (fun z => (z hvf).elim) (fun _ z => (z ⟨hs, hy⟩).elim) (fun _ _ e => thr e) (fun a b c => fin _ _ _ _ _ c (by
      split
      · exact ⟨a, vin_6 1 (by decide), fun k => by rcases k with k | k <;> exact absurd k (by decide), fun k => absurd k (by decide), fun _ => b.2, fun k => absurd k (by decide)⟩
      · exact ⟨a, vin_6 2 (by decide), fun k => by rcases k with k | k <;> exact absurd k (by decide), fun k => absurd k (by decide), fun _ => b.2, fun k => absurd k (by decide)⟩))
  have mo : q_L_below (fun (r : Int32) (_ : Mem) => ((r ≠ 0 → q_L_below (fun (r1 : Int32) (_ : Mem) => q_L_tell_227 post (r1 - 7) (nI d) (nI f) s0 σ) (x >>> (8 &&& 31)) 15 σ) ∧ (r = 0 → q_L_below (fun (r1 : Int32) (_ : Mem) => q_L_tell_227 post (r1 - 2) (nI d) (nI f) s0 σ) (x >>> (8 &&& 31)) 5 σ))) (x >>> (6 &&& 31)) 2 σ := by
    refine s_below 2 rfl (by decide) (by decide) (fun r _ => ⟨fun _ => s_below 15 rfl (by decide) (by decide) (fun q hq => ?_), fun _ => s_below 5 rfl (by decide) (by decide) (fun q hq => ?_)⟩)
    · exact more _ (m15 q hq).1 (m15 q hq).2
    · exact more _ (m5 q hq).1 (m5 q hq).2
  unfold q_L_tell_61
  refine s_below 8 rfl (by decide) (by decide) (fun nu hnu => s_below 10 rfl (by decide) (by decide) (fun q _ => ⟨fun _ => ?_, fun _ => ?_, fun _ => ?_, fun _ => ?_, fun _ => mo, fun _ => mo, fun _ => unl, fun _ => unl, fun _ => ?_⟩))
  · refine s_below 4 rfl (by decide) (by decide) (fun r hr => ?_)
    have hr0 : ¬ nI r < 0 := nI_pos (by omega)
    have hr9 : nI r ≤ 9 := nI_le (b := 9) (by omega) (by decide)
    refine s_X5_preset h.ci (fun z => (z hvf).elim) (fun _ z => (z ⟨hs, vin_j hnu (by decide), hr0, hr9⟩).elim) (fun _ _ e => thr e) (fun a b c => fin 5 _ _ _ _ c ⟨a, vin_6 5 (by decide), fun k => by rcases k with k | k <;> exact absurd k (by decide), fun k => absurd k (by decide), fun _ => b.2.1, fun _ => lo10 b.2.2.1 b.2.2.2⟩)
  · refine s_below 255 rfl (by decide) (by decide) (fun r hr => ?_)
    have e1 : (1 : Int32) + nI r = nI (1 + r) := nI_add 1 r
    have a1 : ¬ (1 : Int32) + nI r < 1 := by rw [e1]; exact nI_nlt (b := 1) (by omega) (by omega)
    have a2 : (1 : Int32) + nI r ≤ 255 := by rw [e1]; exact nI_le (b := 255) (by omega) (by decide)
    refine s_X5_oneOf h.ci (fun z => (z hvf).elim) (fun _ z => (z ⟨hs, a1, a2⟩).elim) (fun _ _ e => thr e) (fun a b c => fin 0 _ _ _ _ c (hk_0 hf h5 hr))
  · refine ⟨by decide, bnd _ _ ?_⟩
    rw [show nI nu / (2 : Int32) = nI (nu / 2) from nI_div (n := 2) (by omega) (by decide)]
    exact vin_j (by omega) (by decide)
  · refine ⟨by decide, bnd _ _ ?_⟩
    rw [show nI nu / (2 : Int32) = nI (nu / 2) from nI_div (n := 2) (by omega) (by decide)]
    exact m7 _ (by omega)
  · refine s_below 2 rfl (by decide) (by decide) (fun r _ => ⟨fun _ => ?_, fun _ => ?_⟩)
    · exact bnd _ _ (vin_j hnu (by decide))
    · exact bnd _ _ (vin_j hnu (by decide))
theorem t_tell {x : Int32} (h : V σ nF nL nC) (h2 : 2 ≤ nF)
    (hp : ∀ σ' : Mem, nL < 30 → V σ' nF (nL + 1) nC → (∀ p : Nat, 22 < p → σ' p = σ p) → post 1 σ') (h30 : nL = 30 → post 1 σ) : q_L_tell post x σ := by
  have h5 := h.ci.lv.1
  unfold q_L_tell
  refine v_house h 0 (by decide) (s_below nF rfl (by omega) (by omega) (fun f hf => v_house h 0 (by decide) (s_below (nF - 1) (nI_m1 (by omega)) (by omega) (by omega) (fun o ho => v_house h 0 (by decide) ⟨nI_ne0 (by omega) (by omega), ?_⟩))))
  intro v ev
  have e1 : (nI f + 1) + nI o = nI (f + 1 + o) := by rw [nI_1, nI_add]
  have ev9 : v = nI ((f + 1 + o) % nF) := by
    rw [ev, e1]
    exact nI_rem (by omega) (by omega)
  have hd : (f + 1 + o) % nF < nF := Nat.mod_lt _ (by omega)
  have hne : (f + 1 + o) % nF ≠ f := by
    rcases Nat.lt_or_ge (f + 1 + o) nF with q | q
    · rw [Nat.mod_eq_of_lt q]; omega
    · rw [Nat.mod_eq_sub_mod q, Nat.mod_eq_of_lt (by omega)]; omega
  rw [ev9]
  refine s_below 5 rfl (by decide) (by decide) (fun r _ => ⟨fun _ => ?_, fun _ => ?_⟩)
  · exact v_ofField h 0 hf (by decide) (t_61 h (h.team hf) hf hd hne hp h30)
  · exact s_below 4 rfl (by decide) (by decide) (fun t ht => t_61 h (vin_j ht (by decide)) hf hd hne hp h30)
end TT
