/-! SIDE BY SIDE: field and the five that tell lines -/
theorem RR.ref {σ τ : Mem} {g : Nat → Nat} {nF : Nat} {x y : Int32} (h : RR σ g τ nF) : RR σ g (mst (mst τ 0 0 y) 0 0 x) nF := h.q (fun _ _ => rfl) ⟨h.ci.2.2.2.2.1, rfl, rfl⟩ rf_we
theorem x_tellc {ad g : Nat → Nat} {post : GP} {kd by_ ab sd bs ok : Int32} {τ : Mem} {nF : Nat} {A B : Prop} (hk : gk g) (hL : LV (tm (g 0) τ) nF (g 0)) (hA : (vp_in ab nF ∧ (two kd → vp_in sd nF)) ↔ A) (hB : A → ((vp_in by_ 4 ∧ ¬ ok = 0 ∧ (two kd → ¬ sd = ab)) ↔ B))
    (x1 : ¬ A → post 0 ad g (mst (mst τ 0 0 0) 0 0 1)) (x2 : A → ¬ B → post 0 ad g (mst (mst τ 0 0 0) 0 0 2)) (x3 : A → B → g 0 = 30 → post 0 ad g (mst (mst τ 0 0 0) 0 0 3))
    (hp : A → B → g 0 < 30 → ∀ ad1 g1 : Nat → Nat, ad1 0 = ad 0 → gk g1 → g1 0 = g 0 + 1 → g1 2 = g 2 → post (nI (g 0)) ad1 g1 (lnT (g 0) kd by_ ab sd bs τ)) : q_X8_tell ad g post kd by_ ab sd bs ok τ :=
  x_tell hk hL (fun a => x1 (fun b => a (hA.mpr b))) (fun a b => x2 (hA.mp a) (fun c => b ((hB (hA.mp a)).mpr c))) (fun a b => x3 (hA.mp a) ((hB (hA.mp a)).mp b)) (fun a b => hp (hA.mp a) ((hB (hA.mp a)).mp b))
theorem bl_ne {c : Prop} {r : Int32} (h : bl c r) : ¬ r = 0 ↔ c := ⟨h.t, fun a b => h.f b a⟩
theorem two_no {kd : Int32} (h : ¬ two kd) {p q r : Prop} : (p ∧ (two kd → q)) ↔ p := ⟨fun z => z.1, fun z => ⟨z, fun t => absurd t h⟩⟩
section XW
variable {am g : Nat → Nat} {post : GP} {a1 a2 a3 a4 : Int32} {τ : Mem} {nF : Nat}
theorem x_oneOf (hk : gk g) (hL : LV (tm (g 0) τ) nF (g 0)) (x1 : ¬ vp_in a2 nF → post 0 am g (mst (mst τ 0 0 0) 0 0 1)) (x2 : vp_in a2 nF → ¬ (vp_in a1 4 ∧ ¬ a3 < 1 ∧ a3 ≤ 255) → post 0 am g (mst (mst τ 0 0 0) 0 0 2)) (x3 : vp_in a2 nF → (vp_in a1 4 ∧ ¬ a3 < 1 ∧ a3 ≤ 255) → g 0 = 30 → post 0 am g (mst (mst τ 0 0 0) 0 0 3))
    (hp : vp_in a2 nF → (vp_in a1 4 ∧ ¬ a3 < 1 ∧ a3 ≤ 255) → g 0 < 30 → ∀ ad1 g1 : Nat → Nat, ad1 0 = am 0 → gk g1 → g1 0 = g 0 + 1 → g1 2 = g 2 → post (nI (g 0)) ad1 g1 (lnT (g 0) 0 a1 a2 a3 0 τ)) : q_X8_oneOf am g post a1 a2 a3 τ := by
  have n0 : ¬ two 0 := by decide
  unfold q_X8_oneOf
  refine s_X8_is (fun r hr => x_tellc hk hL (A := vp_in a2 nF) (B := vp_in a1 4 ∧ ¬ a3 < 1 ∧ a3 ≤ 255) ⟨fun z => z.1, fun z => ⟨z, fun t => absurd t n0⟩⟩ (fun _ => ?_) x1 x2 x3 hp)
  rw [bl_ne hr, Int32.not_lt (a := 255)]
  exact ⟨fun z => ⟨z.1, z.2.1⟩, fun z => ⟨z.1, z.2, fun t => absurd t n0⟩⟩
theorem x_bound (hk : gk g) (hL : LV (tm (g 0) τ) nF (g 0)) (x1 : ¬ vp_in a2 nF → post 0 am g (mst (mst τ 0 0 0) 0 0 1)) (x2 : vp_in a2 nF → ¬ (vp_in a1 4 ∧ vp_in a3 8) → post 0 am g (mst (mst τ 0 0 0) 0 0 2)) (x3 : vp_in a2 nF → (vp_in a1 4 ∧ vp_in a3 8) → g 0 = 30 → post 0 am g (mst (mst τ 0 0 0) 0 0 3))
    (hp : vp_in a2 nF → (vp_in a1 4 ∧ vp_in a3 8) → g 0 < 30 → ∀ ad1 g1 : Nat → Nat, ad1 0 = am 0 → gk g1 → g1 0 = g 0 + 1 → g1 2 = g 2 → post (nI (g 0)) ad1 g1 (lnT (g 0) (if a4 = 0 then 1 else 2) a1 a2 a3 0 τ)) : q_X8_bound am g post a1 a2 a3 a4 τ := by
  unfold q_X8_bound q_X8_bound_11
  have key : ∀ (kd r : Int32), ¬ two kd → bl (¬ a3 < 0 ∧ ¬ (7 : Int32) < a3) r → kd = (if a4 = 0 then 1 else 2) → q_X8_tell am g (fun (r1003 : Int32) (ad1004 g1005 : Nat → Nat) (σ1006 : Mem) => post r1003 ad1004 g1005 σ1006) kd a1 a2 a3 0 r τ := fun kd r n0 hr e => by
    refine x_tellc hk hL (A := vp_in a2 nF) (B := vp_in a1 4 ∧ vp_in a3 8) ⟨fun z => z.1, fun z => ⟨z, fun t => absurd t n0⟩⟩ (fun _ => ?_) x1 x2 x3 (by rw [e]; exact hp)
    have i8 : (¬ a3 < 0 ∧ ¬ (7 : Int32) < a3) ↔ vp_in a3 8 := is_vin (n := 8) (by decide)
    rw [bl_ne hr, i8]
    exact ⟨fun z => ⟨z.1, z.2.1⟩, fun z => ⟨z.1, z.2, fun t => absurd t n0⟩⟩
  exact ⟨fun q => s_X8_is (fun r hr => key 1 r (by decide) hr (by rw [if_pos q])), fun q => s_X8_is (fun r hr => key 2 r (by decide) hr (by rw [if_neg q]))⟩
theorem x_more (hk : gk g) (hL : LV (tm (g 0) τ) nF (g 0)) (x1 : ¬ (vp_in a2 nF ∧ vp_in a3 nF) → post 0 am g (mst (mst τ 0 0 0) 0 0 1)) (x2 : (vp_in a2 nF ∧ vp_in a3 nF) → ¬ (vp_in a1 4 ∧ ¬ a2 = a3 ∧ ¬ a4 < -7 ∧ a4 ≤ 7) → post 0 am g (mst (mst τ 0 0 0) 0 0 2)) (x3 : (vp_in a2 nF ∧ vp_in a3 nF) → (vp_in a1 4 ∧ ¬ a2 = a3 ∧ ¬ a4 < -7 ∧ a4 ≤ 7) → g 0 = 30 → post 0 am g (mst (mst τ 0 0 0) 0 0 3))
    (hp : (vp_in a2 nF ∧ vp_in a3 nF) → (vp_in a1 4 ∧ ¬ a2 = a3 ∧ ¬ a4 < -7 ∧ a4 ≤ 7) → g 0 < 30 → ∀ ad1 g1 : Nat → Nat, ad1 0 = am 0 → gk g1 → g1 0 = g 0 + 1 → g1 2 = g 2 → post (nI (g 0)) ad1 g1 (lnT (g 0) 3 a1 a2 a3 a4 τ)) : q_X8_more am g post a1 a2 a3 a4 τ := by
  have y0 : two 3 := by decide
  unfold q_X8_more
  refine s_X8_is (fun r hr => x_tellc hk hL (A := vp_in a2 nF ∧ vp_in a3 nF) (B := vp_in a1 4 ∧ ¬ a2 = a3 ∧ ¬ a4 < -7 ∧ a4 ≤ 7) ⟨fun z => ⟨z.1, z.2 y0⟩, fun z => ⟨z.1, fun _ => z.2⟩⟩ (fun _ => ?_) x1 x2 x3 hp)
  rw [bl_ne hr, Int32.not_lt (a := 7)]
  exact ⟨fun z => ⟨z.1, fun e => z.2.2 y0 e.symm, z.2.1⟩, fun z => ⟨z.1, z.2.2, fun _ e => z.2.1 e.symm⟩⟩
theorem x_unlike (hk : gk g) (hL : LV (tm (g 0) τ) nF (g 0)) (x1 : ¬ (vp_in a2 nF ∧ vp_in a3 nF) → post 0 am g (mst (mst τ 0 0 0) 0 0 1)) (x2 : (vp_in a2 nF ∧ vp_in a3 nF) → ¬ (vp_in a1 4 ∧ ¬ a2 = a3) → post 0 am g (mst (mst τ 0 0 0) 0 0 2)) (x3 : (vp_in a2 nF ∧ vp_in a3 nF) → (vp_in a1 4 ∧ ¬ a2 = a3) → g 0 = 30 → post 0 am g (mst (mst τ 0 0 0) 0 0 3))
    (hp : (vp_in a2 nF ∧ vp_in a3 nF) → (vp_in a1 4 ∧ ¬ a2 = a3) → g 0 < 30 → ∀ ad1 g1 : Nat → Nat, ad1 0 = am 0 → gk g1 → g1 0 = g 0 + 1 → g1 2 = g 2 → post (nI (g 0)) ad1 g1 (lnT (g 0) 4 a1 a2 a3 0 τ)) : q_X8_unlike am g post a1 a2 a3 τ := by
  have y0 : two 4 := by decide
  unfold q_X8_unlike
  refine x_tellc hk hL (A := vp_in a2 nF ∧ vp_in a3 nF) (B := vp_in a1 4 ∧ ¬ a2 = a3) ⟨fun z => ⟨z.1, z.2 y0⟩, fun z => ⟨z.1, fun _ => z.2⟩⟩ (fun _ => ?_) x1 x2 x3 hp
  exact ⟨fun z => ⟨z.1, fun e => z.2.2 y0 e.symm⟩, fun z => ⟨z.1, by decide, fun _ e => z.2 e.symm⟩⟩
theorem x_preset (hk : gk g) (hL : LV (tm (g 0) τ) nF (g 0)) (x1 : ¬ vp_in a2 nF → post 0 am g (mst (mst τ 0 0 0) 0 0 1)) (x2 : vp_in a2 nF → ¬ (vp_in a1 4 ∧ vp_in a3 8 ∧ ¬ a4 < 0 ∧ a4 ≤ 9) → post 0 am g (mst (mst τ 0 0 0) 0 0 2)) (x3 : vp_in a2 nF → (vp_in a1 4 ∧ vp_in a3 8 ∧ ¬ a4 < 0 ∧ a4 ≤ 9) → g 0 = 30 → post 0 am g (mst (mst τ 0 0 0) 0 0 3))
    (hp : vp_in a2 nF → (vp_in a1 4 ∧ vp_in a3 8 ∧ ¬ a4 < 0 ∧ a4 ≤ 9) → g 0 < 30 → ∀ ad1 g1 : Nat → Nat, ad1 0 = am 0 → gk g1 → g1 0 = g 0 + 1 → g1 2 = g 2 → post (nI (g 0)) ad1 g1 (lnT (g 0) 5 a1 a2 a3 a4 τ)) : q_X8_preset am g post a1 a2 a3 a4 τ := by
  have n0 : ¬ two 5 := by decide
  have i8 : (¬ a3 < 0 ∧ ¬ (7 : Int32) < a3) ↔ vp_in a3 8 := is_vin (n := 8) (by decide)
  have key : ∀ ok : Int32, (¬ ok = 0 ↔ vp_in a3 8 ∧ ¬ a4 < 0 ∧ a4 ≤ 9) → q_X8_tell am g (fun (r2001 : Int32) (ad2002 g2003 : Nat → Nat) (σ2004 : Mem) => post r2001 ad2002 g2003 σ2004) 5 a1 a2 a3 a4 ok τ := fun ok ho => by
    refine x_tellc hk hL (A := vp_in a2 nF) (B := vp_in a1 4 ∧ vp_in a3 8 ∧ ¬ a4 < 0 ∧ a4 ≤ 9) ⟨fun z => z.1, fun z => ⟨z, fun t => absurd t n0⟩⟩ (fun _ => ?_) x1 x2 x3 hp
    rw [ho]
    exact ⟨fun z => ⟨z.1, z.2.1⟩, fun z => ⟨z.1, z.2, fun t => absurd t n0⟩⟩
  unfold q_X8_preset q_X8_preset_32 q_X8_preset_33
  refine s_X8_is (fun r hr => ⟨fun z => key 0 ⟨fun a => absurd rfl a, fun a => absurd (i8.mpr a.1) (hr.f z)⟩, fun z => s_X8_is (fun r2 hr2 => ⟨fun z2 => key 0 ⟨fun a => absurd rfl a, fun a => absurd ⟨a.2.1, Int32.not_lt.mpr a.2.2⟩ (hr2.f z2)⟩, fun z2 => key 1 ⟨fun _ => ⟨i8.mp (hr.t z), (hr2.t z2).1, Int32.not_lt.mp (hr2.t z2).2⟩, fun _ => by decide⟩⟩)⟩)
end XW
section JW
variable {am g : Nat → Nat} {a1 a2 a3 a4 : Int32} {σ τ : Mem} {nF : Nat} {n : Int64} {v : Value}
/-- what may come of a word that both are told -/
abbrev J1 (g : Nat → Nat) (K : Int32 → Mem → Int64 → Value → Int32 → Mem → Prop) : Prop := ∀ (k : Int32) (σ2 : Mem) (n3 : Int64) (v4 : Value) (r5 : Int32) (τ6 : Mem) (nF' : Nat), RR σ2 g τ6 nF' → τ6 0 0 = k → (k = 0 → n3 = r5.toInt64) → K k σ2 n3 v4 r5 τ6
abbrev J2 (am : Nat → Nat) (K : Int32 → Mem → Int64 → Value → Int32 → (Nat → Nat) → (Nat → Nat) → Mem → Prop) : Prop := ∀ (k : Int32) (σ2 : Mem) (n3 : Int64) (v4 : Value) (r5 : Int32) (am6 g7 : Nat → Nat) (τ8 : Mem) (nF' : Nat), am6 0 = am 0 → gk g7 → RR σ2 g7 τ8 nF' → τ8 0 0 = k → (k = 0 → n3 = r5.toInt64) → K k σ2 n3 v4 r5 am6 g7 τ8
theorem no1 {k : Int32} (h : ¬ k = 0) {p : Prop} : k = 0 → p := fun z => absurd z h
theorem j_field {K : Int32 → Mem → Int64 → Value → Int32 → Mem → Prop} (h : RR σ g τ nF) (hp : J1 g K) : q_L_field (fun k1 σ2 n3 v4 => q_X8_field (g 0) (g 2) (fun r5 τ6 => K k1 σ2 n3 v4 r5 τ6) a1 τ) a1 n v σ := by
  unfold q_L_field
  refine s_X5_field h.ci (fun c => Or.inl ⟨rfl, x_field h.lv (fun _ => hp _ _ _ _ _ _ _ h.ref rf_0 (no1 (by decide))) (fun a => absurd a c) (fun a => absurd a c)⟩) (fun a c => Or.inr ⟨rfl, x_field h.lv (fun b => absurd a b) (fun _ _ => hp _ _ _ _ _ _ _ h.ref rf_0 (no1 (by decide))) (fun _ b => absurd b (by omega))⟩) (fun a c => x_field h.lv (fun b => absurd a b) (fun _ b => absurd b (by omega)) (fun _ b => hp _ _ _ _ _ _ _ (rr_field h b a).1 (rr_field h b a).2 (fun _ => rfl)))
theorem j_oneOf {K : Int32 → Mem → Int64 → Value → Int32 → (Nat → Nat) → (Nat → Nat) → Mem → Prop} (hk : gk g) (h : RR σ g τ nF) (hp : J2 am K) : q_L_oneOf (fun k1 σ2 n3 v4 => q_X8_oneOf am g (fun r5 am6 g7 τ8 => K k1 σ2 n3 v4 r5 am6 g7 τ8) a1 a2 a3 τ) a1 a2 a3 n v σ := by
  unfold q_L_oneOf
  refine s_X5_oneOf h.ci (fun c => Or.inl ⟨rfl, x_oneOf hk h.lv (fun _ => hp _ _ _ _ _ _ _ _ _ rfl hk h.ref rf_0 (no1 (by decide))) (fun a => absurd a c) (fun a => absurd a c) (fun a => absurd a c)⟩) (fun a c => Or.inr (Or.inl ⟨rfl, x_oneOf hk h.lv (fun b => absurd a b) (fun _ _ => hp _ _ _ _ _ _ _ _ _ rfl hk h.ref rf_0 (no1 (by decide))) (fun _ b => absurd b c) (fun _ b => absurd b c)⟩)) (fun a b c => Or.inr (Or.inr ⟨rfl, x_oneOf hk h.lv (fun d => absurd a d) (fun _ d => absurd b d) (fun _ _ _ => hp _ _ _ _ _ _ _ _ _ rfl hk h.ref rf_0 (no1 (by decide))) (fun _ _ d => absurd d (by omega))⟩)) (fun a b c => x_oneOf hk h.lv (fun d => absurd a d) (fun _ d => absurd b d) (fun _ _ d => absurd d (by omega)) (fun _ _ d ad1 g1 e1 gk1 e0 e2 => ?_))
  obtain ⟨j, -, hj, ej⟩ := set_in b.2.1 b.2.2
  have t := rr_tell h d e0 e2 (kd := 0) (by_ := a1) (ab := a2) (sd := a3) (bs := 0) ⟨a, vin_6 0 (by decide), fun k => by rcases k with k | k <;> exact absurd k (by decide), fun _ => by rw [ej]; exact and255 j hj, fun k => by rcases k with k | k | k <;> exact absurd k (by decide), fun k => absurd k (by decide)⟩
  exact hp _ _ _ _ _ _ _ _ _ e1 gk1 t.1 t.2 (fun _ => rfl)
theorem j_bound {K : Int32 → Mem → Int64 → Value → Int32 → (Nat → Nat) → (Nat → Nat) → Mem → Prop} (hk : gk g) (h : RR σ g τ nF) (hp : J2 am K) : q_L_bound (fun k1 σ2 n3 v4 => q_X8_bound am g (fun r5 am6 g7 τ8 => K k1 σ2 n3 v4 r5 am6 g7 τ8) a1 a2 a3 a4 τ) a1 a2 a3 a4 n v σ := by
  unfold q_L_bound
  refine s_X5_bound h.ci (fun c => Or.inl ⟨rfl, x_bound hk h.lv (fun _ => hp _ _ _ _ _ _ _ _ _ rfl hk h.ref rf_0 (no1 (by decide))) (fun a => absurd a c) (fun a => absurd a c) (fun a => absurd a c)⟩) (fun a c => Or.inr (Or.inl ⟨rfl, x_bound hk h.lv (fun b => absurd a b) (fun _ _ => hp _ _ _ _ _ _ _ _ _ rfl hk h.ref rf_0 (no1 (by decide))) (fun _ b => absurd b c) (fun _ b => absurd b c)⟩)) (fun a b c => Or.inr (Or.inr ⟨rfl, x_bound hk h.lv (fun d => absurd a d) (fun _ d => absurd b d) (fun _ _ _ => hp _ _ _ _ _ _ _ _ _ rfl hk h.ref rf_0 (no1 (by decide))) (fun _ _ d => absurd d (by omega))⟩)) (fun a b c => x_bound hk h.lv (fun d => absurd a d) (fun _ d => absurd b d) (fun _ _ d => absurd d (by omega)) (fun _ _ d ad1 g1 e1 gk1 e0 e2 => ?_))
  have t := rr_tell h d e0 e2 (kd := if a4 = 0 then 1 else 2) (by_ := a1) (ab := a2) (sd := a3) (bs := 0) (by
    split
    · exact ⟨a, vin_6 1 (by decide), fun k => by rcases k with k | k <;> exact absurd k (by decide), fun k => absurd k (by decide), fun _ => b.2, fun k => absurd k (by decide)⟩
    · exact ⟨a, vin_6 2 (by decide), fun k => by rcases k with k | k <;> exact absurd k (by decide), fun k => absurd k (by decide), fun _ => b.2, fun k => absurd k (by decide)⟩)
  exact hp _ _ _ _ _ _ _ _ _ e1 gk1 t.1 t.2 (fun _ => rfl)
theorem j_more {K : Int32 → Mem → Int64 → Value → Int32 → (Nat → Nat) → (Nat → Nat) → Mem → Prop} (hk : gk g) (h : RR σ g τ nF) (hp : J2 am K) : q_L_more (fun k1 σ2 n3 v4 => q_X8_more am g (fun r5 am6 g7 τ8 => K k1 σ2 n3 v4 r5 am6 g7 τ8) a1 a2 a3 a4 τ) a1 a2 a3 a4 n v σ := by
  unfold q_L_more
  refine s_X5_more h.ci (fun c => Or.inl ⟨rfl, x_more hk h.lv (fun _ => hp _ _ _ _ _ _ _ _ _ rfl hk h.ref rf_0 (no1 (by decide))) (fun a => absurd a c) (fun a => absurd a c) (fun a => absurd a c)⟩) (fun a c => Or.inr (Or.inl ⟨rfl, x_more hk h.lv (fun b => absurd a b) (fun _ _ => hp _ _ _ _ _ _ _ _ _ rfl hk h.ref rf_0 (no1 (by decide))) (fun _ b => absurd b c) (fun _ b => absurd b c)⟩)) (fun a b c => Or.inr (Or.inr ⟨rfl, x_more hk h.lv (fun d => absurd a d) (fun _ d => absurd b d) (fun _ _ _ => hp _ _ _ _ _ _ _ _ _ rfl hk h.ref rf_0 (no1 (by decide))) (fun _ _ d => absurd d (by omega))⟩)) (fun a b c => x_more hk h.lv (fun d => absurd a d) (fun _ d => absurd b d) (fun _ _ d => absurd d (by omega)) (fun _ _ d ad1 g1 e1 gk1 e0 e2 => ?_))
  have t := rr_tell h d e0 e2 (kd := 3) (by_ := a1) (ab := a2) (sd := a3) (bs := a4) ⟨a.1, vin_6 3 (by decide), fun _ => ⟨a.2, fun z => b.2.1 z.symm⟩, fun k => absurd k (by decide), fun k => by rcases k with k | k | k <;> exact absurd k (by decide), fun k => absurd k (by decide)⟩
  exact hp _ _ _ _ _ _ _ _ _ e1 gk1 t.1 t.2 (fun _ => rfl)
theorem j_unlike {K : Int32 → Mem → Int64 → Value → Int32 → (Nat → Nat) → (Nat → Nat) → Mem → Prop} (hk : gk g) (h : RR σ g τ nF) (hp : J2 am K) : q_L_unlike (fun k1 σ2 n3 v4 => q_X8_unlike am g (fun r5 am6 g7 τ8 => K k1 σ2 n3 v4 r5 am6 g7 τ8) a1 a2 a3 τ) a1 a2 a3 n v σ := by
  unfold q_L_unlike
  refine s_X5_unlike h.ci (fun c => Or.inl ⟨rfl, x_unlike hk h.lv (fun _ => hp _ _ _ _ _ _ _ _ _ rfl hk h.ref rf_0 (no1 (by decide))) (fun a => absurd a c) (fun a => absurd a c) (fun a => absurd a c)⟩) (fun a c => Or.inr (Or.inl ⟨rfl, x_unlike hk h.lv (fun b => absurd a b) (fun _ _ => hp _ _ _ _ _ _ _ _ _ rfl hk h.ref rf_0 (no1 (by decide))) (fun _ b => absurd b c) (fun _ b => absurd b c)⟩)) (fun a b c => Or.inr (Or.inr ⟨rfl, x_unlike hk h.lv (fun d => absurd a d) (fun _ d => absurd b d) (fun _ _ _ => hp _ _ _ _ _ _ _ _ _ rfl hk h.ref rf_0 (no1 (by decide))) (fun _ _ d => absurd d (by omega))⟩)) (fun a b c => x_unlike hk h.lv (fun d => absurd a d) (fun _ d => absurd b d) (fun _ _ d => absurd d (by omega)) (fun _ _ d ad1 g1 e1 gk1 e0 e2 => ?_))
  have t := rr_tell h d e0 e2 (kd := 4) (by_ := a1) (ab := a2) (sd := a3) (bs := 0) ⟨a.1, vin_6 4 (by decide), fun _ => ⟨a.2, fun z => b.2 z.symm⟩, fun k => absurd k (by decide), fun k => by rcases k with k | k | k <;> exact absurd k (by decide), fun k => absurd k (by decide)⟩
  exact hp _ _ _ _ _ _ _ _ _ e1 gk1 t.1 t.2 (fun _ => rfl)
theorem j_preset {K : Int32 → Mem → Int64 → Value → Int32 → (Nat → Nat) → (Nat → Nat) → Mem → Prop} (hk : gk g) (h : RR σ g τ nF) (hp : J2 am K) : q_L_preset (fun k1 σ2 n3 v4 => q_X8_preset am g (fun r5 am6 g7 τ8 => K k1 σ2 n3 v4 r5 am6 g7 τ8) a1 a2 a3 a4 τ) a1 a2 a3 a4 n v σ := by
  unfold q_L_preset
  refine s_X5_preset h.ci (fun c => Or.inl ⟨rfl, x_preset hk h.lv (fun _ => hp _ _ _ _ _ _ _ _ _ rfl hk h.ref rf_0 (no1 (by decide))) (fun a => absurd a c) (fun a => absurd a c) (fun a => absurd a c)⟩) (fun a c => Or.inr (Or.inl ⟨rfl, x_preset hk h.lv (fun b => absurd a b) (fun _ _ => hp _ _ _ _ _ _ _ _ _ rfl hk h.ref rf_0 (no1 (by decide))) (fun _ b => absurd b c) (fun _ b => absurd b c)⟩)) (fun a b c => Or.inr (Or.inr ⟨rfl, x_preset hk h.lv (fun d => absurd a d) (fun _ d => absurd b d) (fun _ _ _ => hp _ _ _ _ _ _ _ _ _ rfl hk h.ref rf_0 (no1 (by decide))) (fun _ _ d => absurd d (by omega))⟩)) (fun a b c => x_preset hk h.lv (fun d => absurd a d) (fun _ d => absurd b d) (fun _ _ d => absurd d (by omega)) (fun _ _ d ad1 g1 e1 gk1 e0 e2 => ?_))
  have t := rr_tell h d e0 e2 (kd := 5) (by_ := a1) (ab := a2) (sd := a3) (bs := a4) ⟨a, vin_6 5 (by decide), fun k => by rcases k with k | k <;> exact absurd k (by decide), fun k => absurd k (by decide), fun _ => b.2.1, fun _ => lo10 b.2.2.1 b.2.2.2⟩
  exact hp _ _ _ _ _ _ _ _ _ e1 gk1 t.1 t.2 (fun _ => rfl)
end JW
