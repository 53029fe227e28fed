/-! THE REFERENCE: what a line lets and takes -/
theorem l1_a : ∀ j : Nat, j < 8 → (255 : Int32) &&& ((((1 : Int32) <<< (nI j &&& 31)) - 1) ^^^ (-1)) = ((255 : Int32) <<< (nI j &&& 31)) &&& 255 := by decide +kernel
theorem l1_b : ∀ j : Nat, j < 8 → ((2 : Int32) <<< (nI j &&& 31)) - 1 = (255 : Int32) >>> (((7 : Int32) - nI j) &&& 31) := by decide +kernel
theorem un_a : ∀ j : Nat, j < 256 → (bcF (nI j) = 1 → unF (nI j) = (255 : Int32) &&& (nI j ^^^ (-1))) ∧ (¬ bcF (nI j) = 1 → unF (nI j) = 255) := by decide +kernel
/-- a line of the reference in the class's words -/
abbrev K4 (n : Nat) (τ : Mem) (j : Nat) : Int32 := τ (100 + j) 0
theorem s_shifted {post : Int32 → Mem → Prop} {x b : Int32} {τ : Mem} (hp : post (shF b x) τ) : q_X8_shifted post x b τ := by
  unfold q_X8_shifted q_X8_shifted_14
  unfold shF at hp
  have h : ∀ y : Int32, 0 ≤ y ↔ ¬ y < 0 := fun y => by
    rw [Int32.le_iff_toInt_le, Int32.lt_iff_toInt_lt]
    omega
  refine ⟨fun q => ?_, fun q => ?_⟩
  · rwa [if_neg ((h b).mp q)] at hp
  · have : b < 0 := Classical.byContradiction fun z => q ((h b).mpr z)
    rwa [if_pos this] at hp
/-- what a line lets the field be that it is about -/
def letA (σ : Mem) (j : Nat) (m : Mw) : Int32 := if σ 4 j = 3 ∨ σ 4 j = 4 then loF (σ 4 j) (σ 8 j) 0 (m (σ 7 j).toNatClampNeg) else l1F (σ 4 j) (σ 7 j)
theorem kd_le2 {x : Int32} (h : vp_in x 6) (h5 : ¬ x = 5) : (x ≤ 2 → ¬ (x = 3 ∨ x = 4) ∧ (x = 0 ∨ x = 1 ∨ x = 2)) ∧ (¬ x ≤ 2 → (x = 3 ∨ x = 4)) := by
  obtain ⟨j, hj, rfl⟩ := vin_ex (by decide) h
  rcases (show j = 0 ∨ j = 1 ∨ j = 2 ∨ j = 3 ∨ j = 4 ∨ j = 5 by omega) with rfl | rfl | rfl | rfl | rfl | rfl
  · exact ⟨fun _ => ⟨by decide, by decide⟩, fun q => absurd (by decide) q⟩
  · exact ⟨fun _ => ⟨by decide, by decide⟩, fun q => absurd (by decide) q⟩
  · exact ⟨fun _ => ⟨by decide, by decide⟩, fun q => absurd (by decide) q⟩
  · exact ⟨fun q => absurd q (by decide), fun _ => by decide⟩
  · exact ⟨fun q => absurd q (by decide), fun _ => by decide⟩
  · exact absurd rfl h5
theorem vin_idx {x : Int32} (h : vp_in x 5) : ∃ f : Nat, f < 5 ∧ x = nI f ∧ x.toNatClampNeg = f := by
  obtain ⟨f, hf, rfl⟩ := vin_ex (by decide) h
  exact ⟨f, hf, rfl, nI_clamp (by omega)⟩
theorem s_lets48 {n c j : Nat} {post : Int32 → Mem → Prop} {s0 x4 : Int32} {τ : Mem} (hk : vp_in (τ (100 + j) 0) 6) (h5 : ¬ τ (100 + j) 0 = 5) (hsd : (τ (100 + j) 0 = 1 ∨ τ (100 + j) 0 = 2) → vp_in (τ (100 + j) 3) 8) (hs0 : τ (100 + j) 0 = 4 → s0 &&& 255 = s0)
    (hp : post (if τ (100 + j) 0 = 3 ∨ τ (100 + j) 0 = 4 then loF (τ (100 + j) 0) (τ (100 + j) 4) (if x4 = 0 then 1 else 0) s0 else l1F (τ (100 + j) 0) (τ (100 + j) 3)) τ) : q_X8_lets_48 n c j post s0 x4 τ := by
  unfold q_X8_lets_48 q_X8_lets_159 q_X8_lets_132
  refine ⟨fun q => ?_, fun q => ?_, fun q => ?_, fun q => ?_, fun q => ⟨fun q2 => s_shifted ?_, fun q2 => s_shifted ?_⟩⟩
  · obtain ⟨i, hi, e⟩ := vin_ex (by decide) hk
    rw [e] at q h5 hp hs0
    have h4 : i = 4 := by
      unfold sw_out at q
      rw [nI_toInt (by omega)] at q
      have : ¬ i = 5 := fun z => h5 (by rw [z]; rfl)
      omega
    subst h4
    obtain ⟨z, hz, ez⟩ := s8_ex (hs0 rfl)
    rw [if_pos (show nI 4 = (3 : Int32) ∨ nI 4 = (4 : Int32) from Or.inr rfl)] at hp
    unfold loF at hp
    rw [if_pos (show nI 4 = 4 from rfl)] at hp
    rw [ez] at hp ⊢
    refine s_bitCount ⟨fun q2 => ?_, fun q2 => ?_⟩
    · rw [(un_a z hz).2 q2] at hp; exact hp
    · rw [(un_a z hz).1 q2] at hp; exact hp
  · rw [if_neg (by rw [q]; decide)] at hp
    unfold l1F at hp
    rwa [if_pos (show τ (100 + j) 0 = 0 from q)] at hp
  · obtain ⟨i, hi, ei⟩ := vin_ex (by decide) (hsd (Or.inl q))
    rw [if_neg (by rw [q]; decide)] at hp
    unfold l1F at hp
    rw [if_neg (show ¬ τ (100 + j) 0 = 0 by rw [q]; decide), if_pos (show τ (100 + j) 0 = 1 from q), ei] at hp
    rw [ei, l1_a i hi]
    exact hp
  · obtain ⟨i, hi, ei⟩ := vin_ex (by decide) (hsd (Or.inr q))
    rw [if_neg (by rw [q]; decide)] at hp
    unfold l1F at hp
    rw [if_neg (show ¬ τ (100 + j) 0 = 0 by rw [q]; decide), if_neg (show ¬ τ (100 + j) 0 = 1 by rw [q]; decide), if_pos (show τ (100 + j) 0 = 2 from q), ei] at hp
    rw [ei, l1_b i hi]
    exact hp
  · rw [if_pos (show τ (100 + j) 0 = 3 ∨ τ (100 + j) 0 = 4 from Or.inl q), if_pos q2] at hp
    unfold loF at hp
    rwa [if_neg (by rw [q]; decide), if_neg (by decide)] at hp
  · rw [if_pos (show τ (100 + j) 0 = 3 ∨ τ (100 + j) 0 = 4 from Or.inl q), if_neg q2] at hp
    unfold loF at hp
    rwa [if_neg (by rw [q]; decide), if_pos rfl] at hp
theorem s_letsA {n c nF j d : Nat} {post : Int32 → Mem → Prop} {τ : Mem} (h : LV (tm n τ) nF n) (hj : j < n) (hd : d < 7) (h5 : ¬ τ (100 + j) 0 = 5) (hr : RW (row d τ)) (hp : post (letA (tm n τ) j (row d τ)) τ) : q_X8_lets n c j post (nI d) (τ (100 + j) 2) τ := by
  obtain ⟨ha, hk, h2, h0, h1, -⟩ := h.2.2.2.2 j hj
  have hk : vp_in (τ (100 + j) 0) 6 := hk
  have kd := kd_le2 hk h5
  have hsd : (τ (100 + j) 0 = 1 ∨ τ (100 + j) 0 = 2) → vp_in (τ (100 + j) 3) 8 := fun z => h1 (z.elim Or.inl (fun z => Or.inr (Or.inl z)))
  have hp : post (if τ (100 + j) 0 = 3 ∨ τ (100 + j) 0 = 4 then loF (τ (100 + j) 0) (τ (100 + j) 4) 0 (row d τ (τ (100 + j) 3).toNatClampNeg) else l1F (τ (100 + j) 0) (τ (100 + j) 3)) τ := hp
  unfold q_X8_lets q_X8_lets_13 q_X8_lets_41
  refine ⟨fun q => absurd rfl q, fun _ => ⟨fun q => ?_, fun q => ⟨fun z => absurd z (by decide), fun _ => ?_⟩⟩⟩
  · have hn := (kd.1 q).1
    refine s_lets48 hk h5 hsd (fun z => absurd (Or.inr z) hn) ?_
    rw [if_neg hn] at hp ⊢
    exact hp
  · have h3 := kd.2 q
    obtain ⟨f, hf, e, ef⟩ := vin_idx (h.two hj h3)
    have e : τ (100 + j) 3 = nI f := e
    have ef : (τ (100 + j) 3).toNatClampNeg = f := ef
    rw [ef] at hp
    rw [e]
    refine s_setOf hd hf (s_lets48 hk h5 (by rw [e] at hsd ⊢; exact hsd) (fun _ => hr.2 f) ?_)
    rw [if_neg (show ¬ (1 : Int32) = 0 by decide), e]
    rw [e] at hp
    exact hp
theorem s_letsB {n c nF j d : Nat} {post : Int32 → Mem → Prop} {τ : Mem} (h : LV (tm n τ) nF n) (hj : j < n) (hd : d < 7) (h3 : τ (100 + j) 0 = 3 ∨ τ (100 + j) 0 = 4) (hr : RW (row d τ)) (hp : post (loF (τ (100 + j) 0) (τ (100 + j) 4) 1 (row d τ (τ (100 + j) 2).toNatClampNeg)) τ) : q_X8_lets n c j post (nI d) (τ (100 + j) 3) τ := by
  obtain ⟨ha, hk, h2, h0, h1, -⟩ := h.2.2.2.2 j hj
  have hk : vp_in (τ (100 + j) 0) 6 := hk
  have h5 : ¬ τ (100 + j) 0 = 5 := fun z => by rw [z] at h3; exact absurd h3 (by decide)
  have hsd : (τ (100 + j) 0 = 1 ∨ τ (100 + j) 0 = 2) → vp_in (τ (100 + j) 3) 8 := fun z => h1 (z.elim Or.inl (fun z => Or.inr (Or.inl z)))
  have hne : ¬ τ (100 + j) 2 = τ (100 + j) 3 := fun z => (h2 h3).2 z.symm
  obtain ⟨f, hf, e, ef⟩ := vin_idx (h.ab hj)
  have e : τ (100 + j) 2 = nI f := e
  have ef : (τ (100 + j) 2).toNatClampNeg = f := ef
  unfold q_X8_lets q_X8_lets_13 q_X8_lets_41
  refine ⟨fun _ => ⟨fun q => absurd h3 ((kd_le2 hk h5).1 q).1, fun _ => ⟨fun _ => ?_, fun z => absurd rfl z⟩⟩, fun q => absurd q hne⟩
  rw [e]
  refine s_setOf hd hf (s_lets48 hk h5 hsd (fun _ => hr.2 f) ?_)
  rw [if_pos h3, if_pos rfl]
  rw [ef] at hp
  exact hp
/-- a set of a row cut -/
theorem s_takes {n c j d f : Nat} {post : Int32 → Mem → Prop} {τ : Mem} {x L : Int32} (hd : d < 7) (hf : f < 5) (ex : x = nI f) (hr : RW (row d τ))
    (hl : ∀ po : Int32 → Mem → Prop, po L τ → q_X8_lets n c j po (nI d) x τ) (hp : ∀ r : Int32, bl (¬ (row d τ f &&& L) = row d τ f) r → post r (put d (upd (row d τ) f (row d τ f &&& L)) τ)) : q_X8_takes n c j post (nI d) x τ := by
  have e9 : row d (put d (upd (row d τ) f (row d τ f &&& L)) τ) f = row d τ f &&& L := by
    rw [row_put (upd_RW hr hf (and_s8 (hr.2 f))), upd_eq]
  unfold q_X8_takes q_X8_takes_44
  rw [ex]
  refine s_setOf hd hf ?_
  rw [ix5]
  rintro _ rfl
  refine ⟨v35 hd hf, ?_⟩
  rw [← ex]
  refine hl _ ⟨v35 hd hf, ?_⟩
  rw [c35 hd hf]
  rintro _ rfl
  rw [mst_put hf, ← row_lt (d := d) (τ := τ) hf, ex]
  refine s_setOf hd hf ?_
  rw [e9]
  exact ⟨fun q => ⟨bz0, hp 0 (bl0 (fun z => z q))⟩, fun q => ⟨bz1, hp 1 (bl1 q)⟩⟩
/-- what one line of the set does to a row -/
theorem ln_two {σ : Mem} {j : Nat} {m : Mw} (h : σ 4 j = 3 ∨ σ 4 j = 4) : lnM σ j m = upd (upd m (σ 6 j).toNatClampNeg (m (σ 6 j).toNatClampNeg &&& letA σ j m)) (σ 7 j).toNatClampNeg (m (σ 7 j).toNatClampNeg &&& loF (σ 4 j) (σ 8 j) 1 (upd m (σ 6 j).toNatClampNeg (m (σ 6 j).toNatClampNeg &&& letA σ j m) (σ 6 j).toNatClampNeg)) := by
  unfold lnM tkF letA
  rw [if_pos h, if_pos h]
theorem ln_one {σ : Mem} {j : Nat} {m : Mw} (h : ¬ (σ 4 j = 3 ∨ σ 4 j = 4)) : lnM σ j m = upd m (σ 6 j).toNatClampNeg (m (σ 6 j).toNatClampNeg &&& letA σ j m) := by
  unfold lnM tkF letA
  rw [if_neg h, if_neg h]
/-- a default takes nothing away -/
theorem and_255 {x : Int32} (h : x &&& 255 = x) : x &&& 255 = x := h
theorem ln_def {σ : Mem} {j : Nat} {m : Mw} (h : σ 4 j = 5) (hm : RW m) : lnM σ j m = m ∧ lnC σ j m = false := by
  have hn : ¬ (σ 4 j = 3 ∨ σ 4 j = 4) := by rw [h]; decide
  have e1 : lnM σ j m = m := by
    rw [ln_one hn]
    unfold letA l1F
    rw [if_neg hn, h, if_neg (by decide), if_neg (by decide), if_neg (by decide), hm.2]
    exact upd_self
  refine ⟨e1, ?_⟩
  unfold lnC tkC
  rw [if_neg hn]
  have e2 : tkF (σ 4 j) (σ 6 j) (σ 7 j) (σ 8 j) m = m := e1
  rw [e2]
  simp
