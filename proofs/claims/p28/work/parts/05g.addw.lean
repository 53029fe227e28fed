/-! THE WORLD IN ANOTHER ORDER -/
theorem D_iff {A : Nat → Prop} {ws : va_W} : va_D A ws ↔ ws.Pairwise (fun p q => p.1 ≠ q.1) ∧ ∀ q ∈ ws, A q.1 := by
  constructor
  · intro h
    refine ⟨List.pairwise_iff_getElem.mpr (fun i j hi hj hij e => ?_), fun q hq => ?_⟩
    · have := h.1 i j _ _ (List.getElem?_eq_getElem hi) (List.getElem?_eq_getElem hj) e
      omega
    · obtain ⟨i, hi⟩ := List.getElem?_of_mem hq
      exact h.2 i q hi
  · rintro ⟨h1, h2⟩
    refine ⟨fun i j p q hi hj e => ?_, fun i q hi => h2 q (List.mem_of_getElem? hi)⟩
    obtain ⟨hi1, rfl⟩ := List.getElem?_eq_some_iff.mp hi
    obtain ⟨hj1, rfl⟩ := List.getElem?_eq_some_iff.mp hj
    rcases Nat.lt_trichotomy i j with h | h | h
    · exact absurd e (List.pairwise_iff_getElem.mp h1 i j hi1 hj1 h)
    · exact h
    · exact absurd e.symm (List.pairwise_iff_getElem.mp h1 j i hj1 hi1 h)
theorem D_perm {A : Nat → Prop} {T S : va_W} (h : T.Perm S) (hD : va_D A S) : va_D A T := by
  obtain ⟨h1, h2⟩ := D_iff.mp hD
  exact D_iff.mpr ⟨(h.pairwise_iff (fun {x y} (e : x.1 ≠ y.1) => Ne.symm e)).mpr h1, fun q hq => h2 q (h.mem_iff.mp hq)⟩
theorem P_perm {D : va_G} {T S : va_W} {H : Heap} (h : T.Perm S) (hP : va_P D vwCl S H) : va_P D vwCl T H := fun j q hq => by
  obtain ⟨i, hi⟩ := List.getElem?_of_mem (h.mem_iff.mp (List.mem_of_getElem? hq))
  exact hP i q hi
theorem D_subl {A : Nat → Prop} {T S : va_W} (h : T.Sublist S) (hD : va_D A S) : va_D A T := by
  obtain ⟨h1, h2⟩ := D_iff.mp hD
  exact D_iff.mpr ⟨h1.sublist h, fun q hq => h2 q (h.subset hq)⟩
theorem P_subl {D : va_G} {T S : va_W} {H : Heap} (h : T.Sublist S) (hP : va_P D vwCl S H) : va_P D vwCl T H := fun j q hq => by
  obtain ⟨i, hi⟩ := List.getElem?_of_mem (h.subset (List.mem_of_getElem? hq))
  exact hP i q hi
def cap (n : Nat) : Prop := n = 0 ∨ n = 10 ∨ n = 15 ∨ n = 22 ∨ n = 33
def gk (g : Nat → Nat) : Prop := gok g ∧ cap (g 1) ∧ cap (g 3)
def lnR (v0 v1 v2 v3 v4 v5 v6 : Int32) : Nat → Int32 := fun j => if j = 0 then v0 else if j = 1 then v1 else if j = 2 then v2 else if j = 3 then v3 else if j = 4 then v4 else if j = 5 then v5 else if j = 6 then v6 else 0
def adN (ad : Nat → Nat) (p y n r : Nat) : Nat → Nat := fun q => if q = p then y else if q = n then r else ad q
theorem adN_p {ad : Nat → Nat} {p y n r : Nat} : adN ad p y n r p = y := if_pos rfl
theorem adN_n {ad : Nat → Nat} {p y n r : Nat} (h : n ≠ p) : adN ad p y n r n = r := by unfold adN; rw [if_neg h, if_pos rfl]
theorem adN_o {ad : Nat → Nat} {p y n r q : Nat} (h : q ≠ p) (h2 : q ≠ n) : adN ad p y n r q = ad q := by unfold adN; rw [if_neg h, if_neg h2]
theorem perm_r {α : Type} (W a d L y C : List α) : (W ++ (a ++ (d ++ ((L ++ y) ++ C)))).Perm ((W ++ (a ++ (d ++ (L ++ C)))) ++ y) := by
  have e : (W ++ (a ++ (d ++ (L ++ C)))) ++ y = W ++ (a ++ (d ++ (L ++ (C ++ y)))) := by simp only [List.append_assoc]
  rw [e, List.append_assoc L y C]
  exact ((((List.perm_append_comm).append_left L).append_left d).append_left a).append_left W
theorem perm_n {α : Type} (W a d L y C : List α) : (W ++ (a ++ (d ++ ((L ++ y) ++ C)))).Perm (((W ++ (d ++ (L ++ C))) ++ y) ++ a) := by
  refine (perm_r W a d L y C).trans ?_
  have e1 : (W ++ (a ++ (d ++ (L ++ C)))) ++ y = W ++ (a ++ ((d ++ (L ++ C)) ++ y)) := by simp only [List.append_assoc]
  have e2 : ((W ++ (d ++ (L ++ C))) ++ y) ++ a = W ++ (((d ++ (L ++ C)) ++ y) ++ a) := by simp only [List.append_assoc]
  rw [e1, e2]
  exact (List.perm_append_comm).append_left W
theorem WMg_l {k ad g g1 : Nat → Nat} {σ : Mem} {y r N : Nat} {v0 v1 v2 v3 v4 v5 v6 : Int32} (q0 : g1 0 = g 0 + 1) (q1 : g1 1 = N) (q2 : g1 2 = g 2) (q3 : g1 3 = g 3) (hg : gok g) (h0 : g 0 < 30) (hN : N ≠ 0) : WM k (adN ad (100 + g 0) y 10 r) g1 (mup (mst σ 3 0 (σ 3 0 + 1)) (100 + g 0) (lnR v0 v1 v2 v3 v4 v5 v6)) = (WM0 k ad g σ).set 3 (ad 3, .inr (3, [.int (σ 3 0 + 1), .ref r, .int (nI (g 0 + 1))])) ++ ([(r, .inl (k 3, N, .inr (.inr (.inr (.inr (va_up (fun j => if j < g 0 then some (ad (100 + j)) else none) (g 0) (some y)))))))] ++ (dtW k ad 11 (g 3) (g 2) 200 ++ (((List.range (g 0)).map (lnE ad σ) ++ [(y, .inr (11, [.int v0, .int v1, .int v2, .int v3, .int v4, .int v5, .int v6]))]) ++ (List.range (g 2)).map (cmE k ad σ)))) := by
  have hb := hg.2.2.1
  have hb2 := hg.2.2.2.1
  have a_ : ∀ q : Nat, q < 10 → (adN ad (100 + g 0) y 10 r) q = ad q := fun q h => adN_o (by omega) (by omega)
  have s_ : ∀ q : Nat, q ≠ 3 → q ≠ (100 + g 0) → (mup (mst σ 3 0 (σ 3 0 + 1)) (100 + g 0) (lnR v0 v1 v2 v3 v4 v5 v6)) q = σ q := fun q h1 h2 => by rw [mup_ne h2, mst_ne h1]
  have s3 : (mup (mst σ 3 0 (σ 3 0 + 1)) (100 + g 0) (lnR v0 v1 v2 v3 v4 v5 v6)) 3 0 = σ 3 0 + 1 := by rw [mup_ne (by omega), mst_eq, upd_eq]
  have e0 : WM0 k (adN ad (100 + g 0) y 10 r) g1 (mup (mst σ 3 0 (σ 3 0 + 1)) (100 + g 0) (lnR v0 v1 v2 v3 v4 v5 v6)) = (WM0 k ad g σ).set 3 (ad 3, .inr (3, [.int (σ 3 0 + 1), .ref r, .int (nI (g 0 + 1))])) := by
    unfold WM0
    rw [a_ 0 (by omega), a_ 1 (by omega), a_ 2 (by omega), a_ 3 (by omega), a_ 4 (by omega), a_ 5 (by omega), a_ 6 (by omega), a_ 7 (by omega), a_ 8 (by omega), a_ 9 (by omega), s3]
    rw [s_ 0 (by omega) (by omega), s_ 1 (by omega) (by omega), s_ 2 (by omega) (by omega), s_ 4 (by omega) (by omega), s_ 5 (by omega) (by omega), s_ 6 (by omega) (by omega), s_ 7 (by omega) (by omega), s_ 8 (by omega) (by omega), s_ 9 (by omega) (by omega)]
    rw [adN_n (show (10 : Nat) ≠ (100 + g 0) by omega), adN_o (show (11 : Nat) ≠ (100 + g 0) by omega) (by omega)]
    rw [q0, q1, q2, q3, if_neg hN]
    rfl
  have hf : (fun j : Nat => if j < g 0 + 1 then some ((adN ad (100 + g 0) y 10 r) (100 + j)) else none) = va_up (fun j => if j < g 0 then some (ad (100 + j)) else none) (g 0) (some y) := by
    funext j
    unfold va_up
    by_cases h : j = g 0
    · subst h; rw [if_pos rfl, if_pos (by omega)]; exact congrArg some adN_p
    · rw [if_neg h]
      by_cases h2 : j < g 0
      · dsimp only; rw [if_pos h2, if_pos (by omega), adN_o (by omega) (by omega)]
      · dsimp only; rw [if_neg h2, if_neg (by omega)]
  have e1 : dtW k (adN ad (100 + g 0) y 10 r) 10 N (g 0 + 1) 100 = [(r, .inl (k 3, N, .inr (.inr (.inr (.inr (va_up (fun j => if j < g 0 then some (ad (100 + j)) else none) (g 0) (some y)))))))] := by
    unfold dtW
    rw [if_neg hN, hf, adN_n (by omega)]
  have e2 : dtW k (adN ad (100 + g 0) y 10 r) 11 (g 3) (g 2) 200 = dtW k ad 11 (g 3) (g 2) 200 := by
    unfold dtW
    rw [adN_o (show (11 : Nat) ≠ (100 + g 0) by omega) (by omega)]
    have : (fun j : Nat => if j < g 2 then some ((adN ad (100 + g 0) y 10 r) (200 + j)) else none) = (fun j => if j < g 2 then some (ad (200 + j)) else none) := by
      funext j
      rw [adN_o (by omega) (by omega)]
    rw [this]
  have e3 : (List.range (g 0)).map (lnE (adN ad (100 + g 0) y 10 r) (mup (mst σ 3 0 (σ 3 0 + 1)) (100 + g 0) (lnR v0 v1 v2 v3 v4 v5 v6))) = (List.range (g 0)).map (lnE ad σ) := by
    apply List.map_congr_left
    intro j hj
    have hj := List.mem_range.mp hj
    unfold lnE
    rw [adN_o (by omega) (by omega), s_ (100 + j) (by omega) (by omega)]
  have e4 : (List.range (g 2)).map (cmE k (adN ad (100 + g 0) y 10 r) (mup (mst σ 3 0 (σ 3 0 + 1)) (100 + g 0) (lnR v0 v1 v2 v3 v4 v5 v6))) = (List.range (g 2)).map (cmE k ad σ) := by
    apply List.map_congr_left
    intro j hj
    have hj := List.mem_range.mp hj
    unfold cmE
    rw [adN_o (by omega) (by omega), s_ (200 + j) (by omega) (by omega)]
  have e5 : lnE (adN ad (100 + g 0) y 10 r) (mup (mst σ 3 0 (σ 3 0 + 1)) (100 + g 0) (lnR v0 v1 v2 v3 v4 v5 v6)) (g 0) = (y, .inr (11, [.int v0, .int v1, .int v2, .int v3, .int v4, .int v5, .int v6])) := by
    unfold lnE
    rw [adN_p, mup_eq]
    rfl
  unfold WM
  rw [q0, q1, q2, q3]
  show WM0 k (adN ad (100 + g 0) y 10 r) g1 (mup (mst σ 3 0 (σ 3 0 + 1)) (100 + g 0) (lnR v0 v1 v2 v3 v4 v5 v6)) ++ (dtW k (adN ad (100 + g 0) y 10 r) 10 N (g 0 + 1) 100 ++ (dtW k (adN ad (100 + g 0) y 10 r) 11 (g 3) (g 2) 200 ++ ((List.range (g 0 + 1)).map (lnE (adN ad (100 + g 0) y 10 r) (mup (mst σ 3 0 (σ 3 0 + 1)) (100 + g 0) (lnR v0 v1 v2 v3 v4 v5 v6))) ++ (List.range (g 2)).map (cmE k (adN ad (100 + g 0) y 10 r) (mup (mst σ 3 0 (σ 3 0 + 1)) (100 + g 0) (lnR v0 v1 v2 v3 v4 v5 v6)))))) = _
  rw [e0, e1, e2, List.range_succ, List.map_append, e3, e4]
  show _ ++ (_ ++ (_ ++ ((_ ++ [lnE (adN ad (100 + g 0) y 10 r) (mup (mst σ 3 0 (σ 3 0 + 1)) (100 + g 0) (lnR v0 v1 v2 v3 v4 v5 v6)) (g 0)]) ++ _))) = _
  rw [e5]
theorem WMg_c {k ad g g1 : Nat → Nat} {σ : Mem} {y r N : Nat} {row : Nat → Int32} (q0 : g1 2 = g 2 + 1) (q1 : g1 3 = N) (q2 : g1 0 = g 0) (q3 : g1 1 = g 1) (hg : gok g) (h0 : g 2 < 12) (hN : N ≠ 0) : WM k (adN ad (200 + g 2) y 11 r) g1 (mup (mst σ 4 0 (σ 4 0 + 1)) (200 + g 2) row) = (WM0 k ad g σ).set 4 (ad 4, .inr (3, [.int (σ 4 0 + 1), .ref r, .int (nI (g 2 + 1))])) ++ (dtW k ad 10 (g 1) (g 0) 100 ++ ([(r, .inl (k 3, N, .inr (.inr (.inr (.inr (va_up (fun j => if j < g 2 then some (ad (200 + j)) else none) (g 2) (some y)))))))] ++ ((List.range (g 0)).map (lnE ad σ) ++ ((List.range (g 2)).map (cmE k ad σ) ++ [(y, .inl (k 0, 5, .inl row))])))) := by
  have hb := hg.2.2.1
  have hb2 := hg.2.2.2.1
  have a_ : ∀ q : Nat, q < 10 → (adN ad (200 + g 2) y 11 r) q = ad q := fun q h => adN_o (by omega) (by omega)
  have s_ : ∀ q : Nat, q ≠ 4 → q ≠ (200 + g 2) → (mup (mst σ 4 0 (σ 4 0 + 1)) (200 + g 2) row) q = σ q := fun q h1 h2 => by rw [mup_ne h2, mst_ne h1]
  have s3 : (mup (mst σ 4 0 (σ 4 0 + 1)) (200 + g 2) row) 4 0 = σ 4 0 + 1 := by rw [mup_ne (by omega), mst_eq, upd_eq]
  have e0 : WM0 k (adN ad (200 + g 2) y 11 r) g1 (mup (mst σ 4 0 (σ 4 0 + 1)) (200 + g 2) row) = (WM0 k ad g σ).set 4 (ad 4, .inr (3, [.int (σ 4 0 + 1), .ref r, .int (nI (g 2 + 1))])) := by
    unfold WM0
    rw [a_ 0 (by omega), a_ 1 (by omega), a_ 2 (by omega), a_ 3 (by omega), a_ 4 (by omega), a_ 5 (by omega), a_ 6 (by omega), a_ 7 (by omega), a_ 8 (by omega), a_ 9 (by omega), s3]
    rw [s_ 0 (by omega) (by omega), s_ 1 (by omega) (by omega), s_ 2 (by omega) (by omega), s_ 3 (by omega) (by omega), s_ 5 (by omega) (by omega), s_ 6 (by omega) (by omega), s_ 7 (by omega) (by omega), s_ 8 (by omega) (by omega), s_ 9 (by omega) (by omega)]
    rw [adN_n (show (11 : Nat) ≠ (200 + g 2) by omega), adN_o (show (10 : Nat) ≠ (200 + g 2) by omega) (by omega)]
    rw [q0, q1, q2, q3, if_neg hN]
    rfl
  have hf : (fun j : Nat => if j < g 2 + 1 then some ((adN ad (200 + g 2) y 11 r) (200 + j)) else none) = va_up (fun j => if j < g 2 then some (ad (200 + j)) else none) (g 2) (some y) := by
    funext j
    unfold va_up
    by_cases h : j = g 2
    · subst h; rw [if_pos rfl, if_pos (by omega)]; exact congrArg some adN_p
    · rw [if_neg h]
      by_cases h2 : j < g 2
      · dsimp only; rw [if_pos h2, if_pos (by omega), adN_o (by omega) (by omega)]
      · dsimp only; rw [if_neg h2, if_neg (by omega)]
  have e1 : dtW k (adN ad (200 + g 2) y 11 r) 11 N (g 2 + 1) 200 = [(r, .inl (k 3, N, .inr (.inr (.inr (.inr (va_up (fun j => if j < g 2 then some (ad (200 + j)) else none) (g 2) (some y)))))))] := by
    unfold dtW
    rw [if_neg hN, hf, adN_n (by omega)]
  have e2 : dtW k (adN ad (200 + g 2) y 11 r) 10 (g 1) (g 0) 100 = dtW k ad 10 (g 1) (g 0) 100 := by
    unfold dtW
    rw [adN_o (show (10 : Nat) ≠ (200 + g 2) by omega) (by omega)]
    have : (fun j : Nat => if j < g 0 then some ((adN ad (200 + g 2) y 11 r) (100 + j)) else none) = (fun j => if j < g 0 then some (ad (100 + j)) else none) := by
      funext j
      by_cases h : j < g 0
      · rw [if_pos h, if_pos h, adN_o (by omega) (by omega)]
      · rw [if_neg h, if_neg h]
    rw [this]
  have e3 : (List.range (g 0)).map (lnE (adN ad (200 + g 2) y 11 r) (mup (mst σ 4 0 (σ 4 0 + 1)) (200 + g 2) row)) = (List.range (g 0)).map (lnE ad σ) := by
    apply List.map_congr_left
    intro j hj
    have hj := List.mem_range.mp hj
    unfold lnE
    rw [adN_o (by omega) (by omega), s_ (100 + j) (by omega) (by omega)]
  have e4 : (List.range (g 2)).map (cmE k (adN ad (200 + g 2) y 11 r) (mup (mst σ 4 0 (σ 4 0 + 1)) (200 + g 2) row)) = (List.range (g 2)).map (cmE k ad σ) := by
    apply List.map_congr_left
    intro j hj
    have hj := List.mem_range.mp hj
    unfold cmE
    rw [adN_o (by omega) (by omega), s_ (200 + j) (by omega) (by omega)]
  have e5 : cmE k (adN ad (200 + g 2) y 11 r) (mup (mst σ 4 0 (σ 4 0 + 1)) (200 + g 2) row) (g 2) = (y, .inl (k 0, 5, .inl row)) := by
    unfold cmE
    rw [adN_p, mup_eq]
  unfold WM
  rw [q0, q1, q2, q3]
  show WM0 k (adN ad (200 + g 2) y 11 r) g1 (mup (mst σ 4 0 (σ 4 0 + 1)) (200 + g 2) row) ++ (dtW k (adN ad (200 + g 2) y 11 r) 10 (g 1) (g 0) 100 ++ (dtW k (adN ad (200 + g 2) y 11 r) 11 N (g 2 + 1) 200 ++ ((List.range (g 0)).map (lnE (adN ad (200 + g 2) y 11 r) (mup (mst σ 4 0 (σ 4 0 + 1)) (200 + g 2) row)) ++ (List.range (g 2 + 1)).map (cmE k (adN ad (200 + g 2) y 11 r) (mup (mst σ 4 0 (σ 4 0 + 1)) (200 + g 2) row))))) = _
  rw [e0, e1, e2, List.range_succ, List.map_append, e3, e4]
  show _ ++ (_ ++ (_ ++ (_ ++ (_ ++ [cmE k (adN ad (200 + g 2) y 11 r) (mup (mst σ 4 0 (σ 4 0 + 1)) (200 + g 2) row) (g 2)])))) = _
  rw [e5]
