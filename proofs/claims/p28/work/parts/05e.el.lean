/-! ELEMENTS OF A LIST'S ARRAY -/
theorem arr_recv {D : va_G} {cl : List vw_C} {ws : va_W} {H : Heap} {s : State} {qa b : Nat} {cA : ClassId} {x : vp_A} {nm : String} (hP : va_P D cl ws H) (ha : ws[qa]? = some (b, .inl (cA, x))) (hn : s.vm.findClass nm = some cA) : ∃ cell : Cell, H[b]? = some cell ∧ cell.vm.isStatics = false ∧ s.vm.findClass nm = some cell.cls := by
  have hvm0 : (vp_cell cA x).vm = .none := by
    obtain ⟨n, f | f | f | f | f⟩ := x <;> rfl
  have hcl0 : (vp_cell cA x).cls = cA := by
    obtain ⟨n, f | f | f | f | f⟩ := x <;> rfl
  exact ⟨vp_cell cA x, hP qa _ ha, by rw [hvm0]; rfl, by rw [hcl0]; exact hn⟩
theorem any_of {s : State} {H : Heap} {y : Nat} {nm E : String} (hc : va_Nw (.castable nm E) s) (h : ∃ cell : Cell, H[y]? = some cell ∧ cell.vm.isStatics = false ∧ s.vm.findClass nm = some cell.cls) : va_Any E s H y := by
  obtain ⟨cell, h1, h2, h3⟩ := h
  obtain ⟨kC, hkC, -⟩ := Vm.findClass_spec h3
  obtain ⟨c0, t1, f1, f2, f3⟩ := Cond.castable_spec (va_Nw.use (A := #[]) rfl hc)
  refine ⟨cell, h1, h2, ⟨kC, hkC⟩, fun comp hcomp => ?_⟩
  cases h3.symm.trans f1
  cases hcomp.symm.trans f2
  exact f3
theorem el_any {D : va_G} {k : Nat → Nat} {A : Nat → Prop} {s : State} {H0 H : Heap} {ws : va_W} {y : Nat} (hG : GG D k A s H0) (hK : va_K D vwCl (tyG k) s) (hP : va_P D vwCl ws H) (h : (∃ (j : Nat) (fs : List Value), ws[j]? = some (y, .inr (11, fs))) ∨ ∃ (j : Nat) (u : Nat → Int32), ws[j]? = some (y, .inl (k 0, 5, .inl u))) : va_Any "java/lang/Object" s H y := by
  rcases h with ⟨j, fs, hj⟩ | ⟨j, u, hj⟩
  · exact any_of (nm := "MeetjoinModel$Line") (GG.nc hG (q := ("MeetjoinModel$Line", "java/lang/Object")) 0 rfl) (va_recv hK hP (ci := 11) (q0 := j) rfl hj)
  · exact any_of (nm := "[I") (GG.nc hG (q := ("[I", "java/lang/Object")) 1 rfl) (arr_recv hP hj hG.2.1.1)
section EL
variable {ws : va_W} {q y : Nat} {k : Nat → Nat} {x : Nat × va_E}
theorem el_w (hy : (∃ (j : Nat) (fs : List Value), j ≠ q ∧ ws[j]? = some (y, .inr (11, fs))) ∨ ∃ (j : Nat) (u : Nat → Int32), j ≠ q ∧ ws[j]? = some (y, .inl (k 0, 5, .inl u))) : (∃ (j : Nat) (fs : List Value), ws[j]? = some (y, .inr (11, fs))) ∨ ∃ (j : Nat) (u : Nat → Int32), ws[j]? = some (y, .inl (k 0, 5, .inl u)) := by
  rcases hy with ⟨j, fs, h, hj⟩ | ⟨j, u, h, hj⟩
  · exact Or.inl ⟨j, fs, hj⟩
  · exact Or.inr ⟨j, u, hj⟩
theorem el_sets (hy : (∃ (j : Nat) (fs : List Value), j ≠ q ∧ ws[j]? = some (y, .inr (11, fs))) ∨ ∃ (j : Nat) (u : Nat → Int32), j ≠ q ∧ ws[j]? = some (y, .inl (k 0, 5, .inl u))) : (∃ (j : Nat) (fs : List Value), j ≠ q ∧ (ws.set q x)[j]? = some (y, .inr (11, fs))) ∨ ∃ (j : Nat) (u : Nat → Int32), j ≠ q ∧ (ws.set q x)[j]? = some (y, .inl (k 0, 5, .inl u)) := by
  rcases hy with ⟨j, fs, h, hj⟩ | ⟨j, u, h, hj⟩
  · exact Or.inl ⟨j, fs, h, by rw [List.getElem?_set_ne (Ne.symm h)]; exact hj⟩
  · exact Or.inr ⟨j, u, h, by rw [List.getElem?_set_ne (Ne.symm h)]; exact hj⟩
theorem el_set (hy : (∃ (j : Nat) (fs : List Value), j ≠ q ∧ ws[j]? = some (y, .inr (11, fs))) ∨ ∃ (j : Nat) (u : Nat → Int32), j ≠ q ∧ ws[j]? = some (y, .inl (k 0, 5, .inl u))) : (∃ (j : Nat) (fs : List Value), (ws.set q x)[j]? = some (y, .inr (11, fs))) ∨ ∃ (j : Nat) (u : Nat → Int32), (ws.set q x)[j]? = some (y, .inl (k 0, 5, .inl u)) := el_w (el_sets hy)
theorem el_setx {a : Nat} {gs : List Value} (hq : ws[q]? = some (a, .inr (3, gs))) (hy : (∃ (j : Nat) (fs : List Value), ws[j]? = some (y, .inr (11, fs))) ∨ ∃ (j : Nat) (u : Nat → Int32), ws[j]? = some (y, .inl (k 0, 5, .inl u))) : (∃ (j : Nat) (fs : List Value), (ws.set q x)[j]? = some (y, .inr (11, fs))) ∨ ∃ (j : Nat) (u : Nat → Int32), (ws.set q x)[j]? = some (y, .inl (k 0, 5, .inl u)) := by
  refine el_set ?_
  rcases hy with ⟨j, fs, hj⟩ | ⟨j, u, hj⟩
  · exact Or.inl ⟨j, fs, (fun e => by subst e; rw [hq] at hj; cases hj), hj⟩
  · exact Or.inr ⟨j, u, (fun e => by subst e; rw [hq] at hj; cases hj), hj⟩
end EL
theorem nI_p9 {n : Nat} (h0 : 0 < n) (h : n < 2 ^ 31) : (0 : Int32) < nI n := by
  rw [Int32.lt_iff_toInt_lt, nI_toInt h, Int32.toInt_zero]; omega
theorem nI_ne {a b : Nat} (h : a ≠ b) (ha : a < 2 ^ 31) (hb : b < 2 ^ 31) : ¬ nI a = nI b := fun e => by
  have := congrArg Int32.toNatClampNeg e
  rw [nI_clamp ha, nI_clamp hb] at this
  exact h this
theorem nl_ok {n N : Nat} {σ : Mem} (ht : (n = 10 ∧ N = 15) ∨ (n = 15 ∧ N = 22) ∨ (n = 22 ∧ N = 33)) : q_J8_newLength_cabcc (fun r _ => r = nI N) (nI n) (nI (n + 1) - nI n) (nI n >>> (1 &&& 31)) σ := by
  rcases ht with ⟨rfl, rfl⟩ | ⟨rfl, rfl⟩ | ⟨rfl, rfl⟩
  · intro v e
    have e2 : v = nI 15 := e.trans (by decide +kernel)
    subst e2
    exact ⟨fun h => absurd h (by decide +kernel), fun _ => ⟨fun h => absurd h (by decide +kernel), fun _ => rfl⟩⟩
  · intro v e
    have e2 : v = nI 22 := e.trans (by decide +kernel)
    subst e2
    exact ⟨fun h => absurd h (by decide +kernel), fun _ => ⟨fun h => absurd h (by decide +kernel), fun _ => rfl⟩⟩
  · intro v e
    have e2 : v = nI 33 := e.trans (by decide +kernel)
    subst e2
    exact ⟨fun h => absurd h (by decide +kernel), fun _ => ⟨fun h => absurd h (by decide +kernel), fun _ => rfl⟩⟩
