/-! ROWS ONLY SHRINK -/
def Sb (m m' : Mw) : Prop := ∀ f : Nat, m' f &&& m f = m' f
theorem and_self2 (x : Int32) : x &&& x = x := by apply Int32.toBitVec_inj.mp; simp
theorem Sb.rf {m : Mw} : Sb m m := fun f => and_self2 _
theorem Sb.trans {a b c : Mw} (h : Sb a b) (h2 : Sb b c) : Sb a c := fun f => by
  have h1 := h f
  have h3 := h2 f
  rw [← h3, Int32.and_assoc, h1]
theorem and_sub (x y : Int32) : (x &&& y) &&& x = x &&& y := by
  rw [Int32.and_comm (x &&& y) x, ← Int32.and_assoc, and_self2]
theorem sb_upd {m : Mw} {f : Nat} {y : Int32} : Sb m (upd m f (m f &&& y)) := fun i => by
  by_cases e : i = f
  · subst e; rw [upd_eq]; exact and_sub _ _
  · rw [upd_ne e]; exact and_self2 _
theorem sb_ln {σ : Mem} {j : Nat} {m : Mw} : Sb m (lnM σ j m) := fun i => by
  unfold lnM tkF
  by_cases k : σ 4 j = 3 ∨ σ 4 j = 4
  · rw [if_pos k]
    by_cases e : i = (σ 7 j).toNatClampNeg
    · rw [e, upd_eq]; exact and_sub _ _
    · rw [upd_ne e]
      exact sb_upd i
  · rw [if_neg k]
    exact sb_upd i
theorem sb_ps {T : Nat → Mw → Mw} {set : Int32} (h : ∀ (j : Nat) (m : Mw), Sb m (T j m)) : ∀ (d j : Nat) (m : Mw), Sb m (psM T set d j m) := by
  intro d
  induction d with
  | zero => intro j m; exact Sb.rf
  | succ d ih =>
    intro j m
    rw [ps_eq (T' := T)]
    refine Sb.trans ?_ (ih (j + 1) _)
    unfold stM
    split
    · exact Sb.rf
    · exact h j m
theorem sb_rn {T : Nat → Mw → Mw} {C : Nat → Mw → Bool} {set : Int32} {N : Nat} (h : ∀ (j : Nat) (m : Mw), Sb m (T j m)) : ∀ (k : Nat) (m : Mw), Sb m (rnF T C set N k m) := by
  intro k
  induction k with
  | zero => intro m; exact Sb.rf
  | succ k ih =>
    intro m
    unfold rnF
    split
    · exact (sb_ps h N 0 m).trans (ih _)
    · exact sb_ps h N 0 m
theorem sb_mt {σ : Mem} {set : Int32} {nF nL : Nat} {m : Mw} : Sb m (mtF σ set nF nL m) := by
  unfold mtF finM
  split
  · exact sb_rn (fun j m => sb_ln) 41 m
  · refine (sb_rn (T := lnM σ) (C := lnC σ) (set := set) (N := nL) (fun j m => sb_ln) 41 m).trans (fun i => ?_)
    unfold fl_row
    split
    · exact Int32.zero_and
    · exact and_self2 _
/-- a number tried is a number that was there -/
theorem sb_ty {m : Mw} {f q : Nat} (hm : RW m) (hb : hasB (m f) (nI (q % 8))) : Sb m (tyM m f q) := fun i => by
  unfold tyM
  by_cases e : i = f
  · subst e
    rw [upd_eq]
    obtain ⟨k, hk, ek⟩ := s8_ex (hm.2 i)
    rw [ek] at hb ⊢
    rw [Int32.and_comm]
    exact one_and (q % 8) (Nat.mod_lt _ (by decide)) k hk hb
  · rw [upd_ne e]; exact and_self2 _
theorem sb_set {σ : Mem} {set : Int32} {nF nL : Nat} (hL : LV σ nF nL) : ∀ (d f : Nat) (m m' : Mw), f + d ≤ 5 → RW m → SetR σ set nF nL d f m m' → Sb m m' := by
  intro d
  induction d with
  | zero => intro f m m' _ _ h; rw [show m' = m from h]; exact Sb.rf
  | succ d ih =>
    intro f m m' hf hm h
    obtain ⟨m1, h1, h2⟩ := h
    have s1 : Sb m m1 ∧ RW m1 := by
      by_cases q : 2 ≤ bcF (m f)
      · rcases h1.1 q with ⟨k, hk, gk1, -, ek⟩ | ⟨-, ek⟩
        · rw [ek]
          exact ⟨(sb_ty hm gk1.2.1).trans sb_mt, mt_RW hL (ty_RW hm (by omega))⟩
        · rw [ek]; exact ⟨Sb.rf, hm⟩
      · rw [h1.2 q]; exact ⟨Sb.rf, hm⟩
    exact s1.1.trans (ih (f + 1) m1 m' (by omega) s1.2 h2)
