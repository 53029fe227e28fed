/-! CHOOSING, THE REFERENCE'S WAY: least numbers, bounds, rows -/
def nt1 (y0 y1 : Int32) : Int32 := if y0 ≤ 4 then y1 + ((y0.toUInt32 >>> ((1 : Int32).toUInt32 &&& Int32.toUInt32 31)).toInt32) else (y1 + 2) + ((((y0.toUInt32 >>> ((2 : Int32).toUInt32 &&& Int32.toUInt32 31)).toInt32).toUInt32 >>> ((1 : Int32).toUInt32 &&& Int32.toUInt32 31)).toInt32)
def nt0 (v x1 : Int32) : Int32 := if v ≤ 16 then nt1 v x1 else nt1 ((v.toUInt32 >>> ((4 : Int32).toUInt32 &&& Int32.toUInt32 31)).toInt32) (x1 + 4)
def ntF (x : Int32) : Int32 := if 0 < ((x ^^^ (-1)) &&& (x - 1)) then nt0 ((x ^^^ (-1)) &&& (x - 1)) 1 else ((x ^^^ (-1)) &&& (x - 1)) &&& 32
theorem nt_lo : ∀ k : Nat, k < 256 → ((nI k ^^^ (-1)) &&& (nI k - 1)) ≤ 256 ∨ k = 0 := by decide +kernel
theorem s_nt1 {post : Int32 → Mem → Prop} {y0 y1 : Int32} {τ : Mem} (hp : post (nt1 y0 y1) τ) : q_J6_numberOfTrailingZeros_0f7a4_62 post y0 y1 τ := by
  unfold nt1 at hp
  unfold q_J6_numberOfTrailingZeros_0f7a4_62 q_J6_numberOfTrailingZeros_0f7a4_74
  refine ⟨fun z => ?_, fun z => ?_⟩
  · rw [if_pos z] at hp; exact hp
  · rw [if_neg z] at hp
    rintro _ rfl _ rfl
    exact hp
theorem s_nt0 {post : Int32 → Mem → Prop} {v x1 : Int32} {τ : Mem} (hp : post (nt0 v x1) τ) : q_J6_numberOfTrailingZeros_0f7a4_49 post v x1 τ := by
  unfold nt0 at hp
  unfold q_J6_numberOfTrailingZeros_0f7a4_49
  refine ⟨fun z => ?_, fun z => ?_⟩
  · rw [if_pos z] at hp; exact s_nt1 hp
  · rw [if_neg z] at hp
    rintro _ rfl _ rfl
    exact s_nt1 hp
theorem s_ntz_a {post : Int32 → Mem → Prop} {k : Nat} {τ : Mem} (hk : k < 256) (h0 : ¬ k = 0) (hp : post (ntF (nI k)) τ) : q_J6_numberOfTrailingZeros_0f7a4 post (nI k) τ := by
  have l := (nt_lo k hk).resolve_right h0
  unfold ntF at hp
  unfold q_J6_numberOfTrailingZeros_0f7a4 q_J6_numberOfTrailingZeros_0f7a4_34
  rintro _ rfl
  refine ⟨fun z => ⟨fun _ => ⟨fun _ => ?_, fun q => absurd l q⟩, fun q => absurd (Int32.le_trans l (by decide)) q⟩, fun z => ?_⟩
  · rw [if_pos z] at hp; exact s_nt0 hp
  · rw [if_neg z] at hp; exact hp
def lsN (k : Nat) : Nat := if k.testBit 0 then 0 else if k.testBit 1 then 1 else if k.testBit 2 then 2 else if k.testBit 3 then 3 else if k.testBit 4 then 4 else if k.testBit 5 then 5 else if k.testBit 6 then 6 else 7
def ls (x : Int32) : Nat := lsN x.toNatClampNeg
theorem nt_ls : ∀ k : Nat, k < 256 → ntF (nI k) = nI (lsN k) ∨ k = 0 := by decide +kernel
theorem ls_le : ∀ i : Nat, i < 8 → ∀ k : Nat, k < 256 → ((nI k >>> (nI i &&& 31)) &&& 1) = 0 ∨ lsN k ≤ i := by decide +kernel
theorem ls_b1 : ∀ i : Nat, i < 8 → ls ((1 : Int32) <<< (nI i &&& 31)) = i := by decide +kernel
theorem ls_8 (x : Int32) : ls x < 8 := by
  unfold ls lsN
  split
  · decide
  · split
    · decide
    · split
      · decide
      · split
        · decide
        · split
          · decide
          · split
            · decide
            · split
              · decide
              · decide
theorem ls_hb {x : Int32} {i : Nat} (hx : x &&& 255 = x) (hi : i < 8) (h : hasB x (nI i)) : ls x ≤ i := by
  obtain ⟨k, hk, rfl⟩ := s8_ex hx
  unfold ls
  rw [nI_clamp (by omega)]
  exact (ls_le i hi k hk).resolve_left h
theorem x_least {n c d f : Nat} {post : Int32 → Mem → Prop} {τ : Mem} (hd : d < 7) (hf : f < 5) (hr : RW (row d τ)) (h0 : ¬ row d τ f = 0) (hp : post (nI (ls (row d τ f))) τ) : q_X8_least n c post (nI d) (nI f) τ := by
  unfold q_X8_least
  refine s_setOf hd hf ?_
  obtain ⟨k, hk, e⟩ := s8_ex (hr.2 f)
  rw [e] at h0 hp ⊢
  have k0 : ¬ k = 0 := fun z => h0 (by rw [z]; rfl)
  refine s_ntz_a hk k0 ?_
  rw [(nt_ls k hk).resolve_right k0]
  unfold ls at hp
  rwa [nI_clamp (by omega)] at hp
theorem x_bnd {n c nF d : Nat} {w : Nat → Nat} {post : Int32 → Mem → Prop} {τ : Mem} (h : LV (tm n τ) nF n) (hd : d < 7) (hr : RW (row d τ)) (h0 : ∀ f : Nat, f < nF → ¬ row d τ f = 0) (hw : ∀ f : Nat, f < nF → τ 2 f = nI (w f)) (hp : post (nI (cv_cs w nF (fun f => ls (row d τ f)))) τ) : q_X8_bound_ n c post (nI d) τ := by
  have h5 := h.1
  unfold q_X8_bound_
  have key : ∀ (k f : Nat), f + k = nF → lp_4 (q_X8_bound__4 n c post (q_X8_bound__34 n c post)) (k + 1) (nI d) (nI (cv_cs w f (fun f => ls (row d τ f)))) (nI f) τ := by
    intro k
    induction k with
    | zero =>
      intro f hf
      show q_X8_bound__4 _ _ _ _ _ _ _ _ _
      unfold q_X8_bound__4 q_X8_bound__34
      rw [nfm h, show f = nF by omega]
      exact ⟨fun _ => hp, fun q => absurd (nI_le (by omega) (by omega)) q⟩
    | succ k ih =>
      intro f hf
      show q_X8_bound__4 _ _ _ _ _ _ _ _ _
      unfold q_X8_bound__4
      rw [nfm h]
      refine ⟨fun q => absurd ((nI_leI (by omega) (by omega)).mp q) (by omega), fun _ => ⟨vin_j (by omega) (by decide), x_least hd (by omega) hr (h0 f (by omega)) ?_⟩⟩
      rintro _ rfl _ rfl
      rw [nI_1, nI_clamp (by omega), hw f (by omega), nI_mul, nI_add]
      exact ih (f + 1) (by omega)
  exact ⟨nF + 1, key nF 0 (Nat.zero_add _)⟩
/-- what a row says of the choices that go on from what is chosen -/
def cv_RI (σ : Mem) (set : Int32) (nF nL : Nat) (al : Mw) (d : Nat) (x : Nat → Nat) (m : Mw) : Prop := RW m ∧ cv_Fx σ set nL m ∧ (∀ f : Nat, f < nF → ¬ m f = 0) ∧ (∀ i : Nat, i < d → m i = b1 (x i)) ∧ Sb al m ∧ ∀ y : Nat → Nat, cv_Ex d x y → cv_Ok nF y → cv_P σ set nL nF al y → cv_In nF y m
theorem b1_255 : ∀ i : Nat, i < 8 → ((1 : Int32) <<< (nI i &&& 31)) &&& 255 = (1 : Int32) <<< (nI i &&& 31) := by decide +kernel
theorem b1_sub : ∀ w : Nat, w < 8 → ∀ i : Nat, i < 256 → nI i &&& ((1 : Int32) <<< (nI w &&& 31)) = nI i → nI i = 0 ∨ nI i = (1 : Int32) <<< (nI w &&& 31) := by decide +kernel
theorem one_of {a : Int32} {i : Nat} (ha : a &&& 255 = a) (hi : i < 8) (h : hasB a (nI i)) : a &&& b1 i = b1 i := by
  obtain ⟨k, hk, rfl⟩ := s8_ex ha
  exact one_and i hi k hk h
theorem sub_one {a : Int32} {i : Nat} (ha : a &&& 255 = a) (hi : i < 8) (h : a &&& b1 i = a) (h0 : ¬ a = 0) : a = b1 i := by
  obtain ⟨k, hk, rfl⟩ := s8_ex ha
  exact (b1_sub i hi k hk h).resolve_left h0
theorem ri_not {σ : Mem} {set : Int32} {nF nL d i : Nat} {al : Mw} {x y : Nat → Nat} {m : Mw} (hr : cv_RI σ set nF nL al d x m) (hd : d < nF) (hb : ¬ hasB (m d) (nI i)) (he : cv_Ex (d + 1) (cv_up x d i) y) (ho : cv_Ok nF y) (hP : cv_P σ set nL nF al y) : False := by
  have := hr.2.2.2.2.2 y (ex_up he).1 ho hP d hd
  rw [(ex_up he).2] at this
  exact hb this
theorem ri_in {σ : Mem} {set : Int32} {nF nL d i : Nat} {al : Mw} {x y : Nat → Nat} {m : Mw} (hr : cv_RI σ set nF nL al d x m) (hi : i < 8) (he : cv_Ex (d + 1) (cv_up x d i) y) (ho : cv_Ok nF y) (hP : cv_P σ set nL nF al y) : cv_In nF y (upd m d (m d &&& b1 i)) := fun f hf => by
  have b := hr.2.2.2.2.2 y (ex_up he).1 ho hP f hf
  by_cases e : f = d
  · subst e
    rw [upd_eq]
    refine (hasB_and (ho f hf)).mpr ⟨b, ?_⟩
    rw [(ex_up he).2]
    exact (hb_b1 hi hi).mpr rfl
  · rw [upd_ne e]; exact b
theorem ri_no {σ : Mem} {set : Int32} {nF nL d i : Nat} {al : Mw} {x y : Nat → Nat} {m : Mw} (h : LV σ nF nL) (hr : cv_RI σ set nF nL al d x m) (hd : d < 5) (hi : i < 8) (hc : ¬ mtC σ set nF nL (upd m d (m d &&& b1 i)) = 0) (he : cv_Ex (d + 1) (cv_up x d i) y) (ho : cv_Ok nF y) (hP : cv_P σ set nL nF al y) : False :=
  hc (mt_in h ho hP.1 (upd_RW hr.1 hd (and_s8 (hr.1.2 d))) (ri_in hr hi he ho hP)).1
theorem ri_step {σ : Mem} {set : Int32} {nF nL d i : Nat} {al : Mw} {x : Nat → Nat} {m : Mw} (h : LV σ nF nL) (hr : cv_RI σ set nF nL al d x m) (hx : cv_Ok d x) (hd : d < nF) (hi : i < 8) (hc : mtC σ set nF nL (upd m d (m d &&& b1 i)) = 0) : cv_RI σ set nF nL al (d + 1) (cv_up x d i) (mtF σ set nF nL (upd m d (m d &&& b1 i))) := by
  have h5 := h.1
  have hm := upd_RW (f := d) (x := m d &&& b1 i) hr.1 (by omega) (and_s8 (hr.1.2 d))
  have hm2 := mt_RW (set := set) h hm
  have n0 : ∀ f : Nat, f < nF → ¬ mtF σ set nF nL (upd m d (m d &&& b1 i)) f = 0 := fun f hf => mt_some hf hc
  have sb := sb_mt (σ := σ) (set := set) (nF := nF) (nL := nL) (m := upd m d (m d &&& b1 i))
  refine ⟨hm2, mt_fx h hm, n0, fun k hk => ?_, hr.2.2.2.2.1.trans (sb_upd.trans sb), fun y he ho hP => (mt_in h ho hP.1 hm (ri_in hr hi he ho hP)).2⟩
  have s := sb k
  by_cases e : k = d
  · subst e
    rw [upd_eq] at s
    rw [up_at]
    refine sub_one (hm2.2 k) hi ?_ (n0 k hd)
    have t : (mtF σ set nF nL (upd m k (m k &&& b1 i)) k &&& (m k &&& b1 i)) &&& b1 i = mtF σ set nF nL (upd m k (m k &&& b1 i)) k &&& (m k &&& b1 i) := by
      rw [Int32.and_assoc, Int32.and_assoc (m k), and_self2]
    rwa [s] at t
  · rw [upd_ne e, hr.2.2.2.1 k (by omega)] at s
    rw [up_lo e]
    exact sub_one (hm2.2 k) (hx k (by omega)) s (n0 k (by omega))
theorem ri_root {σ : Mem} {set : Int32} {nF nL : Nat} {al : Mw} {x : Nat → Nat} (h : LV σ nF nL) (ha : RW al) (hc : mtC σ set nF nL al = 0) : cv_RI σ set nF nL al 0 x (mtF σ set nF nL al) :=
  ⟨mt_RW h ha, mt_fx h ha, fun f hf => mt_some hf hc, fun i hi => absurd hi (Nat.not_lt_zero i), sb_mt, fun y _ ho hP => (mt_in h ho hP.1 ha hP.2).2⟩
theorem ri_leaf {σ : Mem} {set : Int32} {nF nL : Nat} {al : Mw} {x : Nat → Nat} {m : Mw} (h : LV σ nF nL) (hr : cv_RI σ set nF nL al nF x m) (hx : cv_Ok nF x) : cv_P σ set nL nF al x := by
  refine ⟨fx_hd h hx hr.2.1 hr.2.2.2.1, fun f hf => ?_⟩
  have s := hr.2.2.2.2.1 f
  rw [hr.2.2.2.1 f hf] at s
  exact and_hb (hx f hf) s ((hb_b1 (hx f hf) (hx f hf)).mpr rfl)
theorem ri_bd {σ : Mem} {set : Int32} {nF nL d : Nat} {al : Mw} {x y : Nat → Nat} {m : Mw} {w : Nat → Nat} (hr : cv_RI σ set nF nL al d x m) (he : cv_Ex d x y) (ho : cv_Ok nF y) (hP : cv_P σ set nL nF al y) : cv_cs w nF (fun f => ls (m f)) ≤ cv_cs w nF y :=
  cs_mono nF (fun f hf => ls_hb (hr.1.2 f) (ho f hf) (hr.2.2.2.2.2 y he ho hP f hf))
theorem ri_cs {σ : Mem} {set : Int32} {nF nL : Nat} {al : Mw} {x : Nat → Nat} {m : Mw} {w : Nat → Nat} (hr : cv_RI σ set nF nL al nF x m) (hx : cv_Ok nF x) : cv_cs w nF (fun f => ls (m f)) = cv_cs w nF x :=
  cs_eq nF (fun f hf => by rw [hr.2.2.2.1 f hf]; exact ls_b1 (x f) (hx f hf))
