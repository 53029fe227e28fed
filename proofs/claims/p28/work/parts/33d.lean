/-! SIDE BY SIDE: reasons -/
section JR
variable {am g : Nat → Nat} {a1 a2 a3 a4 : Int32} {σ τ : Mem} {nF : Nat} {n : Int64} {v : Value}
/-- the class's memory in a reason: its trial apart, as it was -/
def Tr (σ ρ : Mem) : Prop := ∀ p : Nat, p ≠ 14 → p ≠ 15 → ρ p = σ p
theorem tr_bg {set : Int32} {f : Nat} {ρ : Mem} (h : RR σ g τ nF) (ht : Tr σ ρ) (hf : f < 5) : bgM 14 15 nF (g 0) set ρ 15 f = mtF (tm (g 0) τ) set nF (g 0) full f ∧ bgM 14 15 nF (g 0) set ρ 14 2 = mtC (tm (g 0) τ) set nF (g 0) full ∧ Tr σ (bgM 14 15 nF (g 0) set ρ) := by
  have e : ∀ p : Nat, p ≤ 10 → ρ p = σ p := fun p hp => ht p (by omega) (by omega)
  obtain ⟨e1, e2⟩ := ag_mt (set := set) (nF := nF) h.ag h.ci.lv.2.1
  refine ⟨?_, ?_, fun p a b => (bgM_fr a b).trans (ht p a b)⟩
  · unfold bgM
    rw [mst_ne (by decide), mup_eq, fl_cp, mtF_sm e, (cp_mt h.ci.lv).1, cp_lt hf, e1]
  · unfold bgM
    rw [mst_eq, upd_eq, fl_cp, mtC_sm e, (cp_mt h.ci.lv).2, e2]
theorem x_reasonFor {x : Int32} {post : Int32 → Mem → Prop} (h : RR σ g τ nF) (hx : x = -1 ∨ vp_in x nF) (hp : ∀ ρ : Mem, SE τ ρ → post (rsF nF (g 0) x σ).1 ρ) : q_X8_reasonFor (g 0) (g 2) post x τ := by
  have hL := h.lv
  have h5 := hL.1
  have h30 := hL.2.1
  obtain ⟨o1, o2, o3, o4⟩ := h.oi
  have ec : σ 12 2 = mtC (tm (g 0) τ) (stF (tm (g 0) τ) (g 0) 0 0) nF (g 0) full := by rw [o2, (ag_a h.ag h.ci.lv).2]; rfl
  -- the loop: own where there is no contradiction
  have key : ∀ (own : Bool) (f : Nat) (x1 x3 x4 : Int32), (own = true → x3 = 0 ∧ f < nF ∧ x1 = nI f ∧ x4 = σ 13 f ∧ ¬ x4 = 0) → (own = false → ¬ x3 = 0) → ∀ (d j : Nat) (x2 : Int32) (ρc ρ : Mem), j + d = g 0 → Tr σ ρc → SE τ ρ → (∀ χ : Mem, SE τ χ → post (rsL own f nF (g 0) d j x2 ρc).1 χ) → lp_6 (q_X8_reasonFor_42 (g 0) (g 2) post (q_X8_reasonFor_124 (g 0) (g 2) post)) (d + 1) x1 x2 x3 x4 (nI j) ρ := by
    intro own f x1 x3 x4 hown hnot d
    induction d with
    | zero =>
      intro j x2 ρc ρ hj ht hs hp
      show q_X8_reasonFor_42 _ _ _ _ _ _ _ _ _ _ _
      unfold q_X8_reasonFor_42 q_X8_reasonFor_124
      exact ⟨fun _ => hp ρ hs, fun q => absurd (nI_le (by omega) (by omega)) q⟩
    | succ d ih =>
      intro j x2 ρc ρ hj ht hs hp
      show q_X8_reasonFor_42 _ _ _ _ _ _ _ _ _ _ _
      have hj32 : j < 32 := by omega
      have nx : ∀ (y2 : Int32) (ρ1 ρ2 : Mem), Tr σ ρ1 → SE τ ρ2 → (∀ χ : Mem, SE τ χ → post (rsL own f nF (g 0) d (j + 1) y2 ρ1).1 χ) → q_X8_reasonFor_118 (g 0) (g 2) post (q_X8_reasonFor_124 (g 0) (g 2) post) (lp_6 (q_X8_reasonFor_42 (g 0) (g 2) post (q_X8_reasonFor_124 (g 0) (g 2) post)) (d + 1)) x1 y2 x3 x4 (nI j) ρ2 := fun y2 ρ1 ρ2 ht1 hs2 hp2 => by
        unfold q_X8_reasonFor_118
        rintro _ rfl
        rw [nI_1]
        exact ih (j + 1) y2 ρ1 ρ2 (by omega) ht1 hs2 hp2
      unfold rsL at hp
      unfold q_X8_reasonFor_42 q_X8_reasonFor_109
      refine ⟨fun q => absurd ((nI_leI (by omega) (by omega)).mp q) (by omega), fun _ => ⟨fun hb => s_meetAnew (d := 0) (hs.lv hL) (by decide) ?_, fun hb => ?_⟩⟩
      · have hb2 : ¬ x2 &&& (((1 : Int32) <<< (nI j &&& 31)) ^^^ (-1)) = x2 := fun z => hb ((less_eq hj32).mp z)
        rw [if_neg hb2] at hp
        rw [hs.etm]
        generalize x2 &&& (((1 : Int32) <<< (nI j &&& 31)) ^^^ (-1)) = kw at hp ⊢
        have hm := mt_RW (set := kw) hL full_RW
        have s2 : SE τ (put 0 (mtF (tm (g 0) τ) kw nF (g 0) full) ρ) := hs.trans put_se
        have r2 : row 0 (put 0 (mtF (tm (g 0) τ) kw nF (g 0) full) ρ) = mtF (tm (g 0) τ) kw nF (g 0) full := row_put hm
        have t14 := (tr_bg (set := kw) (f := 0) h ht (by decide)).2.1
        have tt := (tr_bg (set := kw) (f := 0) h ht (by decide)).2.2
        cases own with
        | true =>
          obtain ⟨e3, hf, e1, e4, n4⟩ := hown rfl
          have t15 := (tr_bg (set := kw) (f := f) h ht (by omega)).1
          have t13 : bgM 14 15 nF (g 0) kw ρc 13 f = x4 := by rw [tt 13 (by decide) (by decide), e4]
          have cond : ((true = true ∧ bgM 14 15 nF (g 0) kw ρc 15 f = bgM 14 15 nF (g 0) kw ρc 13 f) ∨ (true = false ∧ ¬ bgM 14 15 nF (g 0) kw ρc 14 2 = 0)) ↔ mtF (tm (g 0) τ) kw nF (g 0) full f = x4 := by
            rw [t15, t13]
            exact ⟨fun z => z.elim (fun z => z.2) (fun z => absurd z.1 (by decide)), fun z => Or.inl ⟨rfl, z⟩⟩
          refine ⟨fun _ => ⟨fun q => ?_, fun q => ?_⟩, fun z => absurd e3 z⟩
          · have c : ¬ mtF (tm (g 0) τ) kw nF (g 0) full f = x4 := fun z => n4 (by rw [← z]; exact mt_no (by omega) q)
            rw [if_neg (fun z => c (cond.mp z))] at hp
            exact nx x2 _ _ tt s2 hp
          · rw [e1]
            refine s_setOf (d := 0) (by decide) (by omega) ?_
            rw [r2, ← e1]
            refine ⟨fun c => ?_, fun c => ?_⟩
            · rw [if_neg (fun z => c (cond.mp z))] at hp
              exact nx x2 _ _ tt s2 hp
            · rintro _ rfl
              rw [if_pos (cond.mpr c)] at hp
              exact nx _ _ _ tt s2 hp
        | false =>
          have n3 := hnot rfl
          have cond : ((false = true ∧ bgM 14 15 nF (g 0) kw ρc 15 f = bgM 14 15 nF (g 0) kw ρc 13 f) ∨ (false = false ∧ ¬ bgM 14 15 nF (g 0) kw ρc 14 2 = 0)) ↔ ¬ mtC (tm (g 0) τ) kw nF (g 0) full = 0 := by
            rw [t14]
            exact ⟨fun z => z.elim (fun z => absurd z.1 (by decide)) (fun z => z.2), fun z => Or.inr ⟨rfl, z⟩⟩
          refine ⟨fun z => absurd z n3, fun _ => ⟨fun c => ?_, fun c => ?_⟩⟩
          · rw [if_neg (fun z => (cond.mp z) c)] at hp
            exact nx x2 _ _ tt s2 hp
          · rintro _ rfl
            rw [if_pos (cond.mpr c)] at hp
            exact nx _ _ _ tt s2 hp
      · have hb2 : x2 &&& (((1 : Int32) <<< (nI j &&& 31)) ^^^ (-1)) = x2 := (less_eq hj32).mpr hb
        rw [if_pos hb2] at hp
        exact nx x2 ρc ρ ht hs hp
  unfold q_X8_reasonFor
  refine s_counting hL (s_meetAnew (d := 0) hL (by decide) ?_)
  have eS : σ 11 6 = stF (tm (g 0) τ) (g 0) 0 0 ∨ nF = 0 := by
    rcases Nat.eq_zero_or_pos nF with z | z
    · exact Or.inr z
    · exact Or.inl (by rw [(o4 z).2.1, ag_st h.ag h.ci.lv (g 0) 0 0 (Nat.zero_add _)])
  have s1 : SE τ (put 0 (mtF (tm (g 0) τ) (stF (tm (g 0) τ) (g 0) 0 0) nF (g 0) full) τ) := put_se
  have r1 : row 0 (put 0 (mtF (tm (g 0) τ) (stF (tm (g 0) τ) (g 0) 0 0) nF (g 0) full) τ) = aM (tm (g 0) τ) nF (g 0) := row_put (aM_RW hL)
  rw [← ec]
  have tr0 : Tr σ σ := fun _ _ _ => rfl
  have isn : ¬ σ 12 2 = 0 → nF ≠ 0 := fun q z => by
    subst z
    exact q (by rw [o2]; rfl)
  refine ⟨fun q => ?_, fun q => ⟨fun q2 => ?_, fun q2 => ?_⟩⟩
  · -- a field
    have hv := hx.resolve_left q
    obtain ⟨f, hf, rfl⟩ := vin_ex (by omega) hv
    have ef : (nI f).toNatClampNeg = f := nI_clamp (by omega)
    have eS := eS.resolve_right (by omega)
    have e13 : σ 13 = aM (tm (g 0) τ) nF (g 0) := by rw [(o4 (by omega)).1, (ag_a h.ag h.ci.lv).1]
    unfold q_X8_reasonFor_23 q_X8_reasonFor_37
    unfold rsF at hp
    rw [ef] at hp
    have hn : ¬ (nI f < 0 ∨ nF ≤ f) := fun z => z.elim (nI_pos0 (by omega)) (fun z => by omega)
    refine ⟨fun z => s_setOf (d := 0) (by decide) (by omega) ?_, fun z => ?_⟩
    · rw [r1]
      rw [if_pos ⟨hn, z⟩, eS] at hp
      refine ⟨g 0 + 1, key true f _ _ _ (fun _ => ⟨z, hf, rfl, by rw [e13], ?_⟩) (fun y => absurd y (by decide)) (g 0) 0 _ σ _ (Nat.zero_add _) tr0 s1 hp⟩
      exact mt_some hf (by rw [ec] at z; exact z)
    · rw [if_neg (fun y => z y.2), if_neg z, eS] at hp
      exact ⟨g 0 + 1, key false 0 _ _ _ (fun y => absurd y (by decide)) (fun _ => z) (g 0) 0 _ σ _ (Nat.zero_add _) tr0 s1 hp⟩
  · have eS := eS.resolve_right (isn q2)
    unfold q_X8_reasonFor_23 q_X8_reasonFor_37
    unfold rsF at hp
    rw [if_neg (fun y => q2 y.2), if_neg q2, eS] at hp
    exact ⟨fun y => absurd y q2, fun _ => ⟨g 0 + 1, key false 0 _ _ _ (fun y => absurd y (by decide)) (fun _ => q2) (g 0) 0 _ σ _ (Nat.zero_add _) tr0 s1 hp⟩⟩
  · unfold rsF at hp
    rw [if_neg (fun y => y.1 (Or.inl (by rw [q]; decide))), if_pos q2] at hp
    exact hp _ s1
end JR
