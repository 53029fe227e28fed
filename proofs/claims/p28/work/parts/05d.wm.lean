/-- ArrayList.size() -/
theorem c_size (l : Launch) (D : va_G) (k : Nat → Nat) (a d : Nat) (m z : Int32) {sz : Nat} : Met l yJx4a65c_size_8abf5 wq_Jx4a65c_size_8abf5 rm_Jx4a65c_size_8abf5 (va_Pc [.ref a] (Pw D k [(a, .inr (3, [.int m, .ref d, .int z]))] sz)) (va_Qi (fun r (_ : Unit) => r = z) (fun _ => Bw D [(a, .inr (3, [.int m, .ref d, .int z]))] sz [(a, .inr (3, [.int m, .ref d, .int z]))]) (va_A [(a, .inr (3, [.int m, .ref d, .int z]))] sz)) 0 0 (va_A [(a, .inr (3, [.int m, .ref d, .int z]))] sz) :=
  MetFree.mono (c_Jx4a65c_size_8abf5 l D k (fun _ => a) d (sz := sz) (σ := fun _ j => if j = 0 then m else z) (post := fun r u => r = z ∧ u = fun _ j => if j = 0 then m else z) ⟨rfl, rfl⟩) (fun _ _ h => h) (fun _ _ _ _ _ h => h) (fun x st o t _ hq => by
    obtain ⟨⟨⟨r, u, h1, ⟨h2, rfl⟩, h3⟩, h4⟩, h5⟩ := hq
    exact ⟨⟨⟨r, (), h1, h2, h3⟩, h4⟩, h5⟩)
/-- ArrayList.get(i), where there is such an element -/
theorem c_get (l : Launch) (D : va_G) (k : Nat → Nat) (a d n : Nat) (f : Nat → Option Nat) (m : Int32) {z i y : Nat} (hi : i < z) (hz : z ≤ n) (hn : n < 2 ^ 31) (hy : f i = some y) {sz : Nat} : Met l yJx4a65c_get_915e3 wq_Jx4a65c_get_915e3 rm_Jx4a65c_get_915e3 (va_Pc [.ref a, .int (nI i)] (Pw D k [(a, .inr (3, [.int m, .ref d, .int (nI z)])), (d, .inl (k 3, n, .inr (.inr (.inr (.inr f)))))] sz)) (va_Qr (fun w : Nat × Unit => w.1 = y) (fun w a9 t => a9 = w.1 ∧ Bw D [(a, .inr (3, [.int m, .ref d, .int (nI z)])), (d, .inl (k 3, n, .inr (.inr (.inr (.inr f)))))] sz [(a, .inr (3, [.int m, .ref d, .int (nI z)])), (d, .inl (k 3, n, .inr (.inr (.inr (.inr f)))))] t) (va_A [(a, .inr (3, [.int m, .ref d, .int (nI z)])), (d, .inl (k 3, n, .inr (.inr (.inr (.inr f)))))] sz)) 0 0 (va_A [(a, .inr (3, [.int m, .ref d, .int (nI z)])), (d, .inl (k 3, n, .inr (.inr (.inr (.inr f)))))] sz) :=
  MetFree.mono (c_Jx4a65c_get_915e3 l D k (fun j => if j = 0 then a else d) n f (sz := sz) (σ := fun _ j => if j = 0 then m else nI z) (p1 := nI i) (post := fun r u => r = y ∧ u = fun _ j => if j = 0 then m else nI z) (by
      refine ⟨fun q => absurd q (nI_pos (by omega)), fun _ => ⟨fun _ => ⟨vp_in_nI (by omega) hn, y, ?_, rfl, rfl⟩, fun q => absurd (nI_lt hi (by omega)) q⟩⟩
      rw [nI_clamp (by omega)]
      exact hy)) (fun _ _ h => h) (fun _ _ _ _ _ h => h) (fun x st o t _ hq => by
    obtain ⟨⟨⟨⟨r, u⟩, a9, h1, ⟨h2, rfl⟩, h3⟩, h4⟩, h5⟩ := hq
    exact ⟨⟨⟨(r, ()), a9, h1, h2, h3⟩, h4⟩, h5⟩)
theorem WM_sum (k ad g : Nat → Nat) (σ : Mem) (x : Int64) : (WM k ad g σ).set 0 (ad 0, .inr (12, ([.int (σ 0 0), .ref (ad 1), .ref (ad 2), .int (σ 0 3), .ref (ad 3), .ref (ad 4), .ref (ad 5), .ref (ad 6), .int (σ 0 8), .ref (ad 7), .ref (ad 8), .ref (ad 9), .int (σ 0 12), .int (σ 0 13), .long (dl64 (σ 0 14) (σ 0 15))] : List Value).set 14 (.long x))) = WM k ad g (mlg σ 0 14 x) := by
  have hn : ∀ p : Nat, p ≠ 0 → mlg σ 0 14 x p = σ p := fun p hp => by unfold mlg; rw [mst_ne hp, mst_ne hp]
  have e1 : (List.range (g 0)).map (lnE ad (mlg σ 0 14 x)) = (List.range (g 0)).map (lnE ad σ) := by
    apply List.map_congr_left
    intro a _
    unfold lnE
    rw [hn (100 + a) (by omega)]
  have e2 : (List.range (g 2)).map (cmE k ad (mlg σ 0 14 x)) = (List.range (g 2)).map (cmE k ad σ) := by
    apply List.map_congr_left
    intro a _
    unfold cmE
    rw [hn (200 + a) (by omega)]
  unfold WM
  rw [e1, e2]
  have e0 : WM0 k ad g (mlg σ 0 14 x) = (WM0 k ad g σ).set 0 (ad 0, .inr (12, [.int (σ 0 0), .ref (ad 1), .ref (ad 2), .int (σ 0 3), .ref (ad 3), .ref (ad 4), .ref (ad 5), .ref (ad 6), .int (σ 0 8), .ref (ad 7), .ref (ad 8), .ref (ad 9), .int (σ 0 12), .int (σ 0 13), .long x])) := by
    have e9 : dl64 (mlg σ 0 14 x 0 14) (mlg σ 0 14 x 0 15) = x := dl64_ok x
    unfold WM0
    rw [e9]
    rfl
  rw [e0]
  rfl
abbrev WMI (k ad g : Nat → Nat) (i : Nat) (z0 z1 z2 : Int32) (σ : Mem) : va_W := WM k ad g σ ++ [(i, .inr (2, [.int z0, .int z1, .int z2, .ref (ad 3)]))]
section WMR
variable {p : Program} {l : Launch} {e : Env} {R : Room} {s : State} {m : MethodId} {args : Array Value} {below : List Frame} {meth : Method} {c : Code} {H : Heap} {locs : List Loc} {cells slots : Nat} {Q : State → Prop}
variable {cc : ByteArray} {pc nL index : Nat} {ls : Array Slot} {rest st : List Value} {D : va_G} {k ad g : Nat → Nat} {A : Nat → Prop} {σ : Mem} {Ts : List Cond} {own : String}
theorem dat_ne {n : Nat} (h : 0 < n) {k ad : Nat → Nat} {p c b : Nat} : dtW k ad p n c b = [(ad p, .inl (k 3, n, .inr (.inr (.inr (.inr (fun j => if j < c then some (ad (b + j)) else none))))))] := if_neg (by omega)
theorem WM_d1 (h : 0 < g 1) : (WM k ad g σ)[10]? = some (ad 10, .inl (k 3, g 1, .inr (.inr (.inr (.inr (fun j => if j < g 0 then some (ad (100 + j)) else none)))))) := by
  unfold WM
  rw [show (10 : Nat) = 10 + 0 from rfl, gapp (WM0_len k ad g σ), dat_ne h]
  rfl
theorem WM_d2 (h : 0 < g 3) : (WM k ad g σ)[10 + dn (g 1)]? = some (ad 11, .inl (k 3, g 3, .inr (.inr (.inr (.inr (fun j => if j < g 2 then some (ad (200 + j)) else none)))))) := by
  unfold WM
  rw [gapp (WM0_len k ad g σ), show dn (g 1) = dn (g 1) + 0 from rfl, gapp (dtW_len _ _ _ _ _ _), dat_ne h]
  rfl
theorem wm_size_line (hC : Cx p m c cc nL s args Ts own D k A) (hgw : GoodIn Ts (wsV own index RJx4a65c yJx4a65c_size_8abf5 wq_Jx4a65c_size_8abf5)) (hsz : ls.size = nL) (hst : st = .ref (ad 3) :: rest) (hW : (rest.map fun v => v.category).sum ≤ 8) (hf : rm_Jx4a65c_size_8abf5.frames + 1 ≤ R.frames) (hlc : 8 + (1 + 11) + rm_Jx4a65c_size_8abf5.locals ≤ R.locals) (hdg : decode cc pc = .ok (.invokevirtual index, 3)) (hcs : cells + 0 ≤ R.cells ∧ slots + 0 ≤ R.slots)
    (hP : va_P D vwCl (WM k ad g σ) H) (hD : va_D A (WM k ad g σ)) (hS : va_S A s.heap H locs)
    (kk : ∀ (H1 : Heap) (locs1 : List Loc), va_P D vwCl (WM k ad g σ) H1 → va_D A (WM k ad g σ) → va_S A s.heap H1 locs1 → W p l e R s m args below meth c H1 locs1 cells slots Q (F0 m (pc + 3) ls (.int (nI (g 0)) :: rest))) : W p l e R s m args below meth c H locs cells slots Q (F0 m pc ls st) := by
  refine fw_ciV (As := []) (rest := rest) hC (c_size l D k (ad 3) (if g 1 = 0 then k 10 else ad 10) (σ 3 0) (nI (g 0))) (cwV 0 hC.1.2.2.2.2 hgw rfl rfl rfl (by decide +kernel) ⟨hf, hlc⟩) (va_recv hC.2.1.1 hP (ci := 3) (q0 := 3) rfl rfl) rfl hsz hst hW hdg hcs (P_one (p := 3) hP rfl) (D_one (p := 3) hD rfl) hS (Jn.keep hP hD [3] rfl (fun _ => rfl)) (fun r u H1 locs1 hP1 hD1 hS1 hr => ?_)
  subst hr
  exact kk H1 locs1 hP1 hD1 hS1
theorem wm_size_commit (hC : Cx p m c cc nL s args Ts own D k A) (hgw : GoodIn Ts (wsV own index RJx4a65c yJx4a65c_size_8abf5 wq_Jx4a65c_size_8abf5)) (hsz : ls.size = nL) (hst : st = .ref (ad 4) :: rest) (hW : (rest.map fun v => v.category).sum ≤ 8) (hf : rm_Jx4a65c_size_8abf5.frames + 1 ≤ R.frames) (hlc : 8 + (1 + 11) + rm_Jx4a65c_size_8abf5.locals ≤ R.locals) (hdg : decode cc pc = .ok (.invokevirtual index, 3)) (hcs : cells + 0 ≤ R.cells ∧ slots + 0 ≤ R.slots)
    (hP : va_P D vwCl (WM k ad g σ) H) (hD : va_D A (WM k ad g σ)) (hS : va_S A s.heap H locs)
    (kk : ∀ (H1 : Heap) (locs1 : List Loc), va_P D vwCl (WM k ad g σ) H1 → va_D A (WM k ad g σ) → va_S A s.heap H1 locs1 → W p l e R s m args below meth c H1 locs1 cells slots Q (F0 m (pc + 3) ls (.int (nI (g 2)) :: rest))) : W p l e R s m args below meth c H locs cells slots Q (F0 m pc ls st) := by
  refine fw_ciV (As := []) (rest := rest) hC (c_size l D k (ad 4) (if g 3 = 0 then k 10 else ad 11) (σ 4 0) (nI (g 2))) (cwV 0 hC.1.2.2.2.2 hgw rfl rfl rfl (by decide +kernel) ⟨hf, hlc⟩) (va_recv hC.2.1.1 hP (ci := 3) (q0 := 4) rfl rfl) rfl hsz hst hW hdg hcs (P_one (p := 4) hP rfl) (D_one (p := 4) hD rfl) hS (Jn.keep hP hD [4] rfl (fun _ => rfl)) (fun r u H1 locs1 hP1 hD1 hS1 hr => ?_)
  subst hr
  exact kk H1 locs1 hP1 hD1 hS1
theorem P_two {ws : va_W} {a b : Nat} {x y : Nat × va_E} (hP : va_P D vwCl ws H) (h1 : ws[a]? = some x) (h2 : ws[b]? = some y) : va_P D vwCl [x, y] H := hP.sub [a, b] (by show List.filterMap _ _ = _; simp [List.filterMap, h1, h2])
theorem D_two {ws : va_W} {a b : Nat} {x y : Nat × va_E} (hab : a ≠ b) (hD : va_D A ws) (h1 : ws[a]? = some x) (h2 : ws[b]? = some y) : va_D A [x, y] := hD.sub [a, b] (by simp [va_nd, hab]) (by simp [h1, h2])
theorem wm_get_line (hC : Cx p m c cc nL s args Ts own D k A) (hg : gok g) {j : Nat} (hj : j < g 0) {x : Int32} (ex : x = nI j) (hgw : GoodIn Ts (wsV own index RJx4a65c yJx4a65c_get_915e3 wq_Jx4a65c_get_915e3)) (hsz : ls.size = nL) (hst : st = .int x :: .ref (ad 3) :: rest) (hW : (rest.map fun v => v.category).sum ≤ 8) (hf : rm_Jx4a65c_get_915e3.frames + 1 ≤ R.frames) (hlc : 8 + (2 + 11) + rm_Jx4a65c_get_915e3.locals ≤ R.locals) (hdg : decode cc pc = .ok (.invokevirtual index, 3)) (hcs : cells + 0 ≤ R.cells ∧ slots + 0 ≤ R.slots)
    (hP : va_P D vwCl (WM k ad g σ) H) (hD : va_D A (WM k ad g σ)) (hS : va_S A s.heap H locs)
    (kk : ∀ (H1 : Heap) (locs1 : List Loc), va_P D vwCl (WM k ad g σ) H1 → va_D A (WM k ad g σ) → va_S A s.heap H1 locs1 → W p l e R s m args below meth c H1 locs1 cells slots Q (F0 m (pc + 3) ls (.ref (ad (100 + j)) :: rest))) : W p l e R s m args below meth c H locs cells slots Q (F0 m pc ls st) := by
  subst ex
  have h1 : 0 < g 1 := Nat.lt_of_lt_of_le (Nat.lt_of_le_of_lt (Nat.zero_le j) hj) hg.1
  have e3 : (WM k ad g σ)[3]? = some (ad 3, .inr (3, [.int (σ 3 0), .ref (ad 10), .int (nI (g 0))])) := by
    have : (WM k ad g σ)[3]? = some (ad 3, .inr (3, [.int (σ 3 0), .ref (if g 1 = 0 then k 10 else ad 10), .int (nI (g 0))])) := rfl
    rw [this, if_neg (by omega)]
  have e4 := WM_d1 (k := k) (ad := ad) (g := g) (σ := σ) h1
  refine fw_crV (S := Unit) (post := fun r _ => r = ad (100 + j)) (wf := fun _ => [(ad 3, .inr (3, [.int (σ 3 0), .ref (ad 10), .int (nI (g 0))])), (ad 10, .inl (k 3, g 1, .inr (.inr (.inr (.inr (fun j => if j < g 0 then some (ad (100 + j)) else none))))))]) (As := [.int (nI j)]) (rest := rest) hC (c_get l D k (ad 3) (ad 10) (g 1) (fun j => if j < g 0 then some (ad (100 + j)) else none) (σ 3 0) hj hg.1 (Nat.lt_trans hg.2.2.2.2.1 (by decide)) (if_pos hj)) (cwV 1 hC.1.2.2.2.2 hgw rfl rfl rfl (by decide +kernel) ⟨hf, hlc⟩) (va_recv hC.2.1.1 hP (ci := 3) (q0 := 3) rfl e3) rfl hsz hst hW hdg hcs (P_two hP e3 e4) (D_two (by decide) hD e3 e4) hS (Jn.keep hP hD [3, 10] (by simp only [List.map_cons, List.map_nil, e3, e4]) (fun _ => rfl)) (fun r u H1 locs1 hP1 hD1 hS1 hr => ?_)
  have hr : r = ad (100 + j) := hr
  subst hr
  exact kk H1 locs1 hP1 hD1 hS1
theorem wm_get_commit (hC : Cx p m c cc nL s args Ts own D k A) (hg : gok g) {j : Nat} (hj : j < g 2) {x : Int32} (ex : x = nI j) (hgw : GoodIn Ts (wsV own index RJx4a65c yJx4a65c_get_915e3 wq_Jx4a65c_get_915e3)) (hsz : ls.size = nL) (hst : st = .int x :: .ref (ad 4) :: rest) (hW : (rest.map fun v => v.category).sum ≤ 8) (hf : rm_Jx4a65c_get_915e3.frames + 1 ≤ R.frames) (hlc : 8 + (2 + 11) + rm_Jx4a65c_get_915e3.locals ≤ R.locals) (hdg : decode cc pc = .ok (.invokevirtual index, 3)) (hcs : cells + 0 ≤ R.cells ∧ slots + 0 ≤ R.slots)
    (hP : va_P D vwCl (WM k ad g σ) H) (hD : va_D A (WM k ad g σ)) (hS : va_S A s.heap H locs)
    (kk : ∀ (H1 : Heap) (locs1 : List Loc), va_P D vwCl (WM k ad g σ) H1 → va_D A (WM k ad g σ) → va_S A s.heap H1 locs1 → W p l e R s m args below meth c H1 locs1 cells slots Q (F0 m (pc + 3) ls (.ref (ad (200 + j)) :: rest))) : W p l e R s m args below meth c H locs cells slots Q (F0 m pc ls st) := by
  subst ex
  have h1 : 0 < g 3 := Nat.lt_of_lt_of_le (Nat.lt_of_le_of_lt (Nat.zero_le j) hj) hg.2.1
  have e3 : (WM k ad g σ)[4]? = some (ad 4, .inr (3, [.int (σ 4 0), .ref (ad 11), .int (nI (g 2))])) := by
    have : (WM k ad g σ)[4]? = some (ad 4, .inr (3, [.int (σ 4 0), .ref (if g 3 = 0 then k 10 else ad 11), .int (nI (g 2))])) := rfl
    rw [this, if_neg (by omega)]
  have e4 := WM_d2 (k := k) (ad := ad) (g := g) (σ := σ) h1
  have h9 : (4 : Nat) ≠ 10 + dn (g 1) := by omega
  refine fw_crV (S := Unit) (post := fun r _ => r = ad (200 + j)) (wf := fun _ => [(ad 4, .inr (3, [.int (σ 4 0), .ref (ad 11), .int (nI (g 2))])), (ad 11, .inl (k 3, g 3, .inr (.inr (.inr (.inr (fun j => if j < g 2 then some (ad (200 + j)) else none))))))]) (As := [.int (nI j)]) (rest := rest) hC (c_get l D k (ad 4) (ad 11) (g 3) (fun j => if j < g 2 then some (ad (200 + j)) else none) (σ 4 0) hj hg.2.1 (Nat.lt_trans hg.2.2.2.2.2 (by decide)) (if_pos hj)) (cwV 1 hC.1.2.2.2.2 hgw rfl rfl rfl (by decide +kernel) ⟨hf, hlc⟩) (va_recv hC.2.1.1 hP (ci := 3) (q0 := 4) rfl e3) rfl hsz hst hW hdg hcs (P_two hP e3 e4) (D_two h9 hD e3 e4) hS (Jn.keep hP hD [4, 10 + dn (g 1)] (by simp only [List.map_cons, List.map_nil, e3, e4]) (fun _ => rfl)) (fun r u H1 locs1 hP1 hD1 hS1 hr => ?_)
  have hr : r = ad (200 + j) := hr
  subst hr
  exact kk H1 locs1 hP1 hD1 hS1
/-- ArrayList.iterator() -/
theorem wm_iter (hC : Cx p m c cc nL s args Ts own D k A) (hgw : GoodIn Ts (wsV own index RJx4a65c yJx4a65c_iterator_32c93 wq_Jx4a65c_iterator_32c93)) (hsz : ls.size = nL) (hst : st = .ref (ad 3) :: rest) (hW : (rest.map fun v => v.category).sum ≤ 8) (hf : rm_Jx4a65c_iterator_32c93.frames + 1 ≤ R.frames) (hlc : 8 + (1 + 11) + rm_Jx4a65c_iterator_32c93.locals ≤ R.locals) (hdg : decode cc pc = .ok (.invokevirtual index, 3)) (hcs : cells + 1 ≤ R.cells ∧ slots + 4 ≤ R.slots)
    (hP : va_P D vwCl (WM k ad g σ) H) (hD : va_D A (WM k ad g σ)) (hS : va_S A s.heap H locs)
    (kk : ∀ (i : Nat) (H1 : Heap) (locs1 : List Loc), va_P D vwCl (WMI k ad g i 0 (-1) (σ 3 0) σ) H1 → va_D A (WMI k ad g i 0 (-1) (σ 3 0) σ) → va_S A s.heap H1 locs1 → W p l e R s m args below meth c H1 locs1 (cells + 1) (slots + 4) Q (F0 m (pc + 3) ls (.ref i :: rest))) : W p l e R s m args below meth c H locs cells slots Q (F0 m pc ls st) := by
  refine fw_crV (S := Nat → Nat) (post := fun r u => r = u 0) (wf := fun u => [(ad 3, .inr (3, [.int (σ 3 0), .ref (if g 1 = 0 then k 10 else ad 10), .int (nI (g 0))]))] ++ [(u 0, .inr (2, [.int 0, .int (-1), .int (σ 3 0), .ref (ad 3)]))]) (As := []) (rest := rest) hC (c_Jx4a65c_iterator_32c93 l D k (ad 3) (if g 1 = 0 then k 10 else ad 10) (σ 3 0) (nI (g 0))) (cwV 0 hC.1.2.2.2.2 hgw rfl rfl rfl (by decide +kernel) ⟨hf, hlc⟩) (va_recv hC.2.1.1 hP (ci := 3) (q0 := 3) rfl rfl) rfl hsz hst hW hdg hcs (P_one (p := 3) hP rfl) (D_one (p := 3) hD rfl) hS (Jn.grow (y := fun u : Nat → Nat => (u 0, .inr (2, [.int 0, .int (-1), .int (σ 3 0), .ref (ad 3)]))) hP hD [3] rfl) (fun r u H1 locs1 hP1 hD1 hS1 hr => ?_)
  have hr : r = u 0 := hr
  subst hr
  exact kk _ H1 locs1 hP1 hD1 hS1
theorem c_hasNext (l : Launch) (D : va_G) (k : Nat → Nat) (a i d : Nat) (z0 z1 z2 m : Int32) {n j : Nat} (hj : j ≤ n) (hn : n < 2 ^ 31) (e0 : z0 = nI j) {sz : Nat} : Met l yJx35411_hasNext_aae02 wq_Jx35411_hasNext_aae02 rm_Jx35411_hasNext_aae02 (va_Pc [.ref i] (Pw D k ([(a, .inr (3, [.int m, .ref d, .int (nI n)]))] ++ [(i, .inr (2, [.int z0, .int z1, .int z2, .ref a]))]) sz)) (va_Qi (fun r (_ : Unit) => r = if j < n then 1 else 0) (fun _ => Bw D ([(a, .inr (3, [.int m, .ref d, .int (nI n)]))] ++ [(i, .inr (2, [.int z0, .int z1, .int z2, .ref a]))]) sz ([(a, .inr (3, [.int m, .ref d, .int (nI n)]))] ++ [(i, .inr (2, [.int z0, .int z1, .int z2, .ref a]))])) (va_A ([(a, .inr (3, [.int m, .ref d, .int (nI n)]))] ++ [(i, .inr (2, [.int z0, .int z1, .int z2, .ref a]))]) sz)) 0 0 (va_A ([(a, .inr (3, [.int m, .ref d, .int (nI n)]))] ++ [(i, .inr (2, [.int z0, .int z1, .int z2, .ref a]))]) sz) :=
  MetFree.mono (c_Jx35411_hasNext_aae02 l D k (fun q => if q = 0 then a else i) d (sz := sz) (σ := fun p q => if p = 0 then (if q = 0 then m else nI n) else (if q = 0 then z0 else if q = 1 then z1 else z2)) (post := fun r u => (r = if j < n then 1 else 0) ∧ u = fun p q => if p = 0 then (if q = 0 then m else nI n) else (if q = 0 then z0 else if q = 1 then z1 else z2)) (by
      subst e0
      refine ⟨fun q => ?_, fun q => ?_⟩
      · have : ¬ j < n := fun h => by
          have e := congrArg Int32.toNatClampNeg q
          have e1 : (nI j).toNatClampNeg = j := nI_clamp (by omega)
          have e2 : (nI n).toNatClampNeg = n := nI_clamp hn
          have e3 : (nI j).toNatClampNeg = (nI n).toNatClampNeg := e
          omega
        exact ⟨bz0, (if_neg this).symm, rfl⟩
      · have : j < n := Nat.lt_of_le_of_ne hj (fun h => q (by subst h; rfl))
        exact ⟨bz1, (if_pos this).symm, rfl⟩)) (fun _ _ h => h) (fun _ _ _ _ _ h => h) (fun x st o t _ hq => by
    obtain ⟨⟨⟨r, u, h1, ⟨h2, rfl⟩, h3⟩, h4⟩, h5⟩ := hq
    exact ⟨⟨⟨r, (), h1, h2, h3⟩, h4⟩, h5⟩)
theorem e3M : (WM k ad g σ)[3]? = some (ad 3, .inr (3, [.int (σ 3 0), .ref (if g 1 = 0 then k 10 else ad 10), .int (nI (g 0))])) := rfl
theorem wm_hasNext {count : Nat} (hC : Cx p m c cc nL s args Ts own D k A) (hg : gok g) {i j : Nat} {z0 z1 z2 : Int32} (hj : j ≤ g 0) (e0 : z0 = nI j) (hgw : GoodIn Ts (va_wsF own index RJx35411 itH yJx35411_hasNext_aae02 wq_Jx35411_hasNext_aae02)) (hsz : ls.size = nL) (hst : st = .ref i :: rest) (hW : (rest.map fun v => v.category).sum ≤ 8) (hf : rm_Jx35411_hasNext_aae02.frames + 1 ≤ R.frames) (hlc : 8 + (1 + 11) + rm_Jx35411_hasNext_aae02.locals ≤ R.locals) (hdg : decode cc pc = .ok (.invokeinterface index count, 5)) (hcs : cells + 0 ≤ R.cells ∧ slots + 0 ≤ R.slots)
    (hP : va_P D vwCl (WMI k ad g i z0 z1 z2 σ) H) (hD : va_D A (WMI k ad g i z0 z1 z2 σ)) (hS : va_S A s.heap H locs)
    (kk : ∀ (r : Int32), (r = if j < g 0 then 1 else 0) → ∀ (H1 : Heap) (locs1 : List Loc), va_P D vwCl (WMI k ad g i z0 z1 z2 σ) H1 → va_D A (WMI k ad g i z0 z1 z2 σ) → va_S A s.heap H1 locs1 → W p l e R s m args below meth c H1 locs1 cells slots Q (F0 m (pc + 5) ls (.int r :: rest))) : W p l e R s m args below meth c H locs cells slots Q (F0 m pc ls st) := by
  have hg0 : g 0 < 2 ^ 31 := Nat.lt_of_le_of_lt hg.2.2.1 (by decide)
  have eI : (WMI k ad g i z0 z1 z2 σ)[(WM k ad g σ).length + 0]? = some (i, .inr (2, [.int z0, .int z1, .int z2, .ref (ad 3)])) := app_r rfl
  have h3 : (3 : Nat) ≠ (WM k ad g σ).length + 0 := by
    have : 3 < (WM k ad g σ).length := (List.getElem?_eq_some_iff.mp (e3M (k := k) (ad := ad) (g := g) (σ := σ))).1
    omega
  refine fw_ciF (S := Unit) (post := fun r _ => r = if j < g 0 then 1 else 0) (wf := fun _ => [(ad 3, .inr (3, [.int (σ 3 0), .ref (if g 1 = 0 then k 10 else ad 10), .int (nI (g 0))]))] ++ [(i, .inr (2, [.int z0, .int z1, .int z2, .ref (ad 3)]))]) (As := []) (rest := rest) hC (hC.2.1.1.1 2 _ rfl).2 (c_hasNext l D k (ad 3) i (if g 1 = 0 then k 10 else ad 10) z0 z1 z2 (σ 3 0) hj hg0 e0) (va_cwF 0 hC.1.2.2.2.2 hgw rfl rfl rfl hC.2.1.2.2.2.2.2.2.2.2.2.2.2.2.2.1.1 ⟨by decide, by decide, by decide +kernel⟩ ⟨hf, hlc⟩) (va_recv hC.2.1.1 hP (ci := 2) (q0 := (WM k ad g σ).length + 0) rfl eI) rfl hsz hst hW hdg hcs (P_two hP (app_l e3M) eI) (D_two h3 hD (app_l e3M) eI) hS (Jn.tailx (ws := WM k ad g σ) (y := fun _ : Unit => .inr (2, [.int z0, .int z1, .int z2, .ref (ad 3)])) hP hD [3] rfl) (fun r u H1 locs1 hP1 hD1 hS1 hr => ?_)
  exact kk r hr H1 locs1 hP1 hD1 hS1
theorem c_next (l : Launch) (D : va_G) (k : Nat → Nat) (a b i n : Nat) (f : Nat → Option Nat) (z0 z1 z2 m : Int32) {z j y : Nat} (hj : j < z) (hz : z ≤ n) (hn : n < 2 ^ 31) (hy : f j = some y) (e0 : z0 = nI j) (e2 : z2 = m) {sz : Nat} : Met l yJx35411_next_0502b wq_Jx35411_next_0502b rm_Jx35411_next_0502b (va_Pc [.ref i] (Pw D k ([(a, .inr (3, [.int m, .ref b, .int (nI z)])), (b, .inl (k 3, n, .inr (.inr (.inr (.inr f)))))] ++ [(i, .inr (2, [.int z0, .int z1, .int z2, .ref a]))]) sz)) (va_Qr (fun w : Nat × Unit => w.1 = y) (fun w a9 t => a9 = w.1 ∧ Bw D ([(a, .inr (3, [.int m, .ref b, .int (nI z)])), (b, .inl (k 3, n, .inr (.inr (.inr (.inr f)))))] ++ [(i, .inr (2, [.int z0, .int z1, .int z2, .ref a]))]) sz ([(a, .inr (3, [.int m, .ref b, .int (nI z)])), (b, .inl (k 3, n, .inr (.inr (.inr (.inr f)))))] ++ [(i, .inr (2, [.int (nI (j + 1)), .int (nI j), .int z2, .ref a]))]) t) (va_A ([(a, .inr (3, [.int m, .ref b, .int (nI z)])), (b, .inl (k 3, n, .inr (.inr (.inr (.inr f)))))] ++ [(i, .inr (2, [.int z0, .int z1, .int z2, .ref a]))]) sz)) 0 0 (va_A ([(a, .inr (3, [.int m, .ref b, .int (nI z)])), (b, .inl (k 3, n, .inr (.inr (.inr (.inr f)))))] ++ [(i, .inr (2, [.int z0, .int z1, .int z2, .ref a]))]) sz) :=
  MetFree.mono (c_Jx35411_next_0502b l D k (fun q => if q = 0 then a else if q = 1 then b else i) n f (sz := sz) (σ := fun p q => if p = 0 then (if q = 0 then m else nI z) else (if q = 0 then z0 else if q = 1 then z1 else z2)) (post := fun r u => r = y ∧ u 0 0 = m ∧ u 0 2 = nI z ∧ u 2 0 = nI (j + 1) ∧ u 2 1 = nI j ∧ u 2 2 = z2) (by
      subst e0
      subst e2
      refine ⟨fun _ v3 e3 => ?_, fun q => absurd rfl q⟩
      have e3 : v3 = nI j := e3
      subst e3
      refine ⟨fun _ => ⟨fun _ σ6 e6 σ7 e7 => ?_, fun q => absurd (nI_lt (Nat.lt_of_lt_of_le hj hz) hn) q⟩, fun q => absurd (nI_lt hj (Nat.lt_of_le_of_lt hz hn)) q⟩
      subst e7
      subst e6
      refine ⟨vp_in_nI (Nat.lt_of_lt_of_le hj hz) hn, y, ?_, rfl, rfl, rfl, ?_, rfl, rfl⟩
      · rw [nI_clamp (Nat.lt_of_lt_of_le hj (Nat.le_of_lt (Nat.lt_of_le_of_lt hz hn)))]
        exact hy
      · exact (nI_succ j).symm)) (fun _ _ h => h) (fun _ _ _ _ _ h => h) (fun x st o t _ hq => by
    obtain ⟨⟨⟨⟨r, u⟩, a9, h1, ⟨h2, u1, u2, u3, u4, u5⟩, h3⟩, h4⟩, h5⟩ := hq
    have u1 : u 0 0 = m := u1
    have u2 : u 0 2 = nI z := u2
    have u3 : u 2 0 = nI (j + 1) := u3
    have u4 : u 2 1 = nI j := u4
    have u5 : u 2 2 = z2 := u5
    have h3 := h3
    dsimp only [WI] at h3
    rw [u1, u2, u3, u4, u5] at h3
    exact ⟨⟨⟨(r, ()), a9, h1, h2, h3⟩, h4⟩, h5⟩)
theorem wm_next {count : Nat} (hC : Cx p m c cc nL s args Ts own D k A) (hg : gok g) {i j : Nat} {z0 z1 z2 : Int32} (hj : j < g 0) (e0 : z0 = nI j) (e2 : z2 = σ 3 0) (hgw : GoodIn Ts (va_wsF own index RJx35411 itN yJx35411_next_0502b wq_Jx35411_next_0502b)) (hsz : ls.size = nL) (hst : st = .ref i :: rest) (hW : (rest.map fun v => v.category).sum ≤ 8) (hf : rm_Jx35411_next_0502b.frames + 1 ≤ R.frames) (hlc : 8 + (3 + 11) + rm_Jx35411_next_0502b.locals ≤ R.locals) (hdg : decode cc pc = .ok (.invokeinterface index count, 5)) (hcs : cells + 0 ≤ R.cells ∧ slots + 0 ≤ R.slots)
    (hP : va_P D vwCl (WMI k ad g i z0 z1 z2 σ) H) (hD : va_D A (WMI k ad g i z0 z1 z2 σ)) (hS : va_S A s.heap H locs)
    (kk : ∀ (y0 y1 : Int32), y0 = nI (j + 1) → y1 = nI j → ∀ (H1 : Heap) (locs1 : List Loc), va_P D vwCl (WMI k ad g i y0 y1 z2 σ) H1 → va_D A (WMI k ad g i y0 y1 z2 σ) → va_S A s.heap H1 locs1 → W p l e R s m args below meth c H1 locs1 cells slots Q (F0 m (pc + 5) ls (.ref (ad (100 + j)) :: rest))) : W p l e R s m args below meth c H locs cells slots Q (F0 m pc ls st) := by
  have h1 : 0 < g 1 := Nat.lt_of_lt_of_le (Nat.lt_of_le_of_lt (Nat.zero_le j) hj) hg.1
  have e3 : (WM k ad g σ)[3]? = some (ad 3, .inr (3, [.int (σ 3 0), .ref (ad 10), .int (nI (g 0))])) := by
    have : (WM k ad g σ)[3]? = some (ad 3, .inr (3, [.int (σ 3 0), .ref (if g 1 = 0 then k 10 else ad 10), .int (nI (g 0))])) := rfl
    rw [this, if_neg (by omega)]
  have e4 := WM_d1 (k := k) (ad := ad) (g := g) (σ := σ) h1
  have eI : (WMI k ad g i z0 z1 z2 σ)[(WM k ad g σ).length + 0]? = some (i, .inr (2, [.int z0, .int z1, .int z2, .ref (ad 3)])) := app_r rfl
  have h10 : 10 < (WM k ad g σ).length := (List.getElem?_eq_some_iff.mp e4).1
  have hps : [3, 10].map (fun q => (WM k ad g σ)[q]?) = ([(ad 3, .inr (3, [.int (σ 3 0), .ref (ad 10), .int (nI (g 0))])), (ad 10, .inl (k 3, g 1, .inr (.inr (.inr (.inr (fun j => if j < g 0 then some (ad (100 + j)) else none))))))] : va_W).map some := by simp only [List.map_cons, List.map_nil, e3, e4]
  have hsub : List.filterMap (fun q => (WMI k ad g i z0 z1 z2 σ)[q]?) [3, 10, (WM k ad g σ).length + 0] = [(ad 3, .inr (3, [.int (σ 3 0), .ref (ad 10), .int (nI (g 0))])), (ad 10, .inl (k 3, g 1, .inr (.inr (.inr (.inr (fun j => if j < g 0 then some (ad (100 + j)) else none))))))] ++ [(i, .inr (2, [.int z0, .int z1, .int z2, .ref (ad 3)]))] := by
    simp only [List.filterMap, app_l e3, app_l e4, eI]
    rfl
  have hsubD : List.map (fun q => (WMI k ad g i z0 z1 z2 σ)[q]?) [3, 10, (WM k ad g σ).length + 0] = List.map some ([(ad 3, .inr (3, [.int (σ 3 0), .ref (ad 10), .int (nI (g 0))])), (ad 10, .inl (k 3, g 1, .inr (.inr (.inr (.inr (fun j => if j < g 0 then some (ad (100 + j)) else none))))))] ++ [(i, .inr (2, [.int z0, .int z1, .int z2, .ref (ad 3)]))]) := by
    simp only [List.map_cons, List.map_nil, List.cons_append, List.nil_append, app_l e3, app_l e4, eI]
  refine fw_crF (S := Unit) (post := fun r _ => r = ad (100 + j)) (wf := fun _ => [(ad 3, .inr (3, [.int (σ 3 0), .ref (ad 10), .int (nI (g 0))])), (ad 10, .inl (k 3, g 1, .inr (.inr (.inr (.inr (fun j => if j < g 0 then some (ad (100 + j)) else none))))))] ++ [(i, .inr (2, [.int (nI (j + 1)), .int (nI j), .int z2, .ref (ad 3)]))]) (As := []) (rest := rest) hC (hC.2.1.1.1 2 _ rfl).2 (c_next l D k (ad 3) (ad 10) i (g 1) (fun j => if j < g 0 then some (ad (100 + j)) else none) z0 z1 z2 (σ 3 0) hj hg.1 (Nat.lt_trans hg.2.2.2.2.1 (by decide)) (if_pos hj) e0 e2) (va_cwF 0 hC.1.2.2.2.2 hgw rfl rfl rfl hC.2.1.2.2.2.2.2.2.2.2.2.2.2.2.2.1.2 ⟨by decide, by decide, by decide +kernel⟩ ⟨hf, hlc⟩) (va_recv hC.2.1.1 hP (ci := 2) (q0 := (WM k ad g σ).length + 0) rfl eI) rfl hsz hst hW hdg hcs (hP.sub [3, 10, (WM k ad g σ).length + 0] hsub) (hD.sub [3, 10, (WM k ad g σ).length + 0] (by simp [va_nd]; omega) hsubD) hS (Jn.tailx (ws := WM k ad g σ) (y := fun _ : Unit => .inr (2, [.int (nI (j + 1)), .int (nI j), .int z2, .ref (ad 3)])) hP hD [3, 10] hps) (fun r u H1 locs1 hP1 hD1 hS1 hr => ?_)
  have hr : r = ad (100 + j) := hr
  subst hr
  exact kk _ _ rfl rfl H1 locs1 hP1 hD1 hS1
end WMR
