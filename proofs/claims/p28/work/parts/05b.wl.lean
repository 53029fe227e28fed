/-! LISTS OF THE JDK: a list object; a list object and its array -/
def WS (k ad : Nat → Nat) (d : Nat) (σ : Mem) : va_W := [(ad 0, .inr (3, [.int (σ 0 0), .ref d, .int (σ 0 2)]))]
def WL (k ad : Nat → Nat) (n : Nat) (f : Nat → Option Nat) (σ : Mem) : va_W := [(ad 0, .inr (3, [.int (σ 0 0), .ref (ad 1), .int (σ 0 2)])), (ad 1, .inl (k 3, n, .inr (.inr (.inr (.inr f)))))]
section QO
variable {p : Program} {l : Launch} {e : Env} {R : Room} {s : State} {m : MethodId} {args : Array Value} {below : List Frame} {meth : Method} {c : Code} {H : Heap} {locs : List Loc} {cells slots : Nat} {Q : State → Prop}
variable {cc : ByteArray} {pc : Nat} {ls : Array Slot} {rest : List Value} {D : va_G} {cl : List vw_C} {A : Nat → Prop} {a : Nat} {tys : List (ClassId × FieldType)} {ws : va_W} {H0 : Heap}
/-- aaload out of an array of objects, where something stands -/
theorem va_ldq (hexec : p.tables.exec = Jvm.exec) (hb : c.code = cc) (hK : va_K D cl tys s) (hP : va_P D cl ws H) (q0 t0 : Nat) {cA : ClassId} {n : Nat} {f : Nat → Option Nat} (ha : ws[q0]? = some (a, .inl (cA, n, .inr (.inr (.inr (.inr f)))))) (ht : tys[t0]? = some (cA, .object "java/lang/Object")) {i : Int32} (hin : vp_in i n) {y : Nat} (hf : f i.toNatClampNeg = some y) (hdg : decode cc pc = .ok (.aaload, 1))
    (kk : W p l e R s m args below meth c H locs cells slots Q (F0 m (pc + 1) ls (.ref y :: rest))) : W p l e R s m args below meth c H locs cells slots Q (F0 m pc ls (.int i :: .ref a :: rest)) := by
  have hlt : i.toNatClampNeg < n := Nat.not_le.mp fun q => hin (Or.inr q)
  exact W.aald (v := .ref y) (ty := .object "java/lang/Object") hexec hb (hP q0 _ ha) ((hK.2 t0 _ ht).1 n (fun j => va_rf (f j))) rfl (fun q => by cases q) (by show ¬ (i < 0 ∨ (arrV _ _ _).slots.size ≤ _); rw [arrV_size]; exact hin) (by show (arrV _ _ _).slots[_]? = _; rw [arrV_read _ _ hlt, hf]; rfl) rfl rfl hdg kk
end QO
/-! ITERATORS: the list and its iterator; with the array between -/
def WH (k ad : Nat → Nat) (d : Nat) (σ : Mem) : va_W := [(ad 0, .inr (3, [.int (σ 0 0), .ref d, .int (σ 0 2)])), (ad 1, .inr (2, [.int (σ 1 0), .int (σ 1 1), .int (σ 1 2), .ref (ad 0)]))]
def WI (k ad : Nat → Nat) (n : Nat) (f : Nat → Option Nat) (σ : Mem) : va_W := [(ad 0, .inr (3, [.int (σ 0 0), .ref (ad 1), .int (σ 0 2)])), (ad 1, .inl (k 3, n, .inr (.inr (.inr (.inr f))))), (ad 2, .inr (2, [.int (σ 2 0), .int (σ 2 1), .int (σ 2 2), .ref (ad 0)]))]
section FCF
variable {p : Program} {l : Launch} {e : Env} {R : Room} {s : State} {m : MethodId} {args : Array Value} {below : List Frame} {meth : Method} {c : Code} {H : Heap} {locs : List Loc} {cells slots : Nat} {Q : State → Prop}
variable {S : Type} {x y : MethodName} {wsy Ts : List Cond} {rmy : Room} {bytes cc : ByteArray} {maxL nL mc ms n index count pc : Nat} {ret : Option FieldType} {own C9 : String} {c9 : ClassId} {b : Nat} {As rest st : List Value} {wc : va_W} {wf wN : S → va_W} {D : va_G} {k : Nat → Nat} {A : Nat → Prop} {ls : Array Slot}
theorem fw_ciF {post : Int32 → S → Prop} (hC : Cx p m c cc nL s args Ts own D k A) (hat : ClassAt s C9 c9)
    (hM : Met l y wsy rmy (va_Pc (.ref b :: As) (Pw D k wc H.size)) (va_Qi post (fun u => Bw D wc H.size (wf u)) (va_A wc H.size)) mc ms (va_A wc H.size))
    (cw : va_CI R s args own C9 index x y bytes maxL ret wsy rmy mc ms n) (hr : ∃ cell : Cell, H[b]? = some cell ∧ cell.vm.isStatics = false ∧ s.vm.findClass C9 = some cell.cls)
    (hn : As.length = n) (hsz : ls.size = nL) (hst : st = As.reverse ++ .ref b :: rest) (hW : (rest.map fun v => v.category).sum ≤ 8) (hdg : decode cc pc = .ok (.invokeinterface index count, 5)) (hf : cells + mc ≤ R.cells ∧ slots + ms ≤ R.slots)
    (hPc : va_P D vwCl wc H) (hDc : va_D A wc) (hS : va_S A s.heap H locs) (J : Jn D A wc H wf wN)
    (kk : ∀ (r : Int32) (u : S) (H1 : Heap) (locs1 : List Loc), va_P D vwCl (wN u) H1 → va_D A (wN u) → va_S A s.heap H1 locs1 → post r u → W p l e R s m args below meth c H1 locs1 (cells + mc) (slots + ms) Q (F0 m (pc + 5) ls (.int r :: rest))) :
    W p l e R s m args below meth c H locs cells slots Q (F0 m pc ls st) := by
  have hFc := va_free0 hDc hS hC.2.2
  refine va_callFi (va_runF (As := As) (rest := rest) hat hC.1 hM cw ⟨Pw_blind, hr, fw_pre hC hPc hDc hS⟩ rfl hn hsz hst (lv_room hW) hdg hf) hS (fun q _ h => hFc q h) hFc (fun r u t H1 locs1 ht hvm hq hB hz1 hk1 hS1 => ?_)
  obtain ⟨hP1, hD1⟩ := hB
  rw [ht] at hP1
  obtain ⟨hP2, hD2⟩ := J u H1 hP1 hD1 hz1 hk1 hFc
  exact kk r u H1 locs1 hP2 hD2 hS1 hq
theorem fw_crF {post : Nat → S → Prop} (hC : Cx p m c cc nL s args Ts own D k A) (hat : ClassAt s C9 c9)
    (hM : Met l y wsy rmy (va_Pc (.ref b :: As) (Pw D k wc H.size)) (va_Qr (fun z : Nat × S => post z.1 z.2) (fun z a t => a = z.1 ∧ Bw D wc H.size (wf z.2) t) (va_A wc H.size)) mc ms (va_A wc H.size))
    (cw : va_CI R s args own C9 index x y bytes maxL ret wsy rmy mc ms n) (hr : ∃ cell : Cell, H[b]? = some cell ∧ cell.vm.isStatics = false ∧ s.vm.findClass C9 = some cell.cls)
    (hn : As.length = n) (hsz : ls.size = nL) (hst : st = As.reverse ++ .ref b :: rest) (hW : (rest.map fun v => v.category).sum ≤ 8) (hdg : decode cc pc = .ok (.invokeinterface index count, 5)) (hf : cells + mc ≤ R.cells ∧ slots + ms ≤ R.slots)
    (hPc : va_P D vwCl wc H) (hDc : va_D A wc) (hS : va_S A s.heap H locs) (J : Jn D A wc H wf wN)
    (kk : ∀ (r : Nat) (u : S) (H1 : Heap) (locs1 : List Loc), va_P D vwCl (wN u) H1 → va_D A (wN u) → va_S A s.heap H1 locs1 → post r u → W p l e R s m args below meth c H1 locs1 (cells + mc) (slots + ms) Q (F0 m (pc + 5) ls (.ref r :: rest))) :
    W p l e R s m args below meth c H locs cells slots Q (F0 m pc ls st) := by
  have hFc := va_free0 hDc hS hC.2.2
  refine va_callFr (va_runF (As := As) (rest := rest) hat hC.1 hM cw ⟨Pw_blind, hr, fw_pre hC hPc hDc hS⟩ rfl hn hsz hst (lv_room hW) hdg hf) hS (fun q _ h => hFc q h) hFc (fun z ra t H1 locs1 ht hvm hq hB hz1 hk1 hS1 => ?_)
  obtain ⟨rfl, hP1, hD1⟩ := hB
  rw [ht] at hP1
  obtain ⟨hP2, hD2⟩ := J z.2 H1 hP1 hD1 hz1 hk1 hFc
  exact kk z.1 z.2 H1 locs1 hP2 hD2 hS1 hq
end FCF
theorem one_at {z q : Nat × va_E} {j : Nat} (h : [z][j]? = some q) : j = 0 ∧ q = z := by
  cases j with
  | zero => exact ⟨rfl, (Option.some.inj h).symm⟩
  | succ n => simp at h
theorem app_l {X Y : va_W} {n : Nat} {q : Nat × va_E} (h : X[n]? = some q) : (X ++ Y)[n]? = some q := by
  rw [List.getElem?_append_left (List.getElem?_eq_some_iff.mp h).1]; exact h
theorem app_r {X Y : va_W} {n : Nat} {q : Nat × va_E} (h : Y[n]? = some q) : (X ++ Y)[X.length + n]? = some q := by
  rw [List.getElem?_append_right (by omega), show X.length + n - X.length = n by omega]; exact h
theorem keepP {D : va_G} {A : Nat → Prop} {ws K : va_W} {H H1 : Heap} (hP : va_P D vwCl ws H) (hD : va_D A ws) (ps : List Nat) (hC : ps.map (fun i => ws[i]?) = K.map some) (hP1 : va_P D vwCl K H1) (hk : ∀ (j : Nat) (q : Nat × va_E), ws[j]? = some q → (∀ (i : Nat) (e : va_E), K[i]? = some (q.1, e) → False) → H1[q.1]? = H[q.1]?) : va_P D vwCl ws H1 := by
  intro j q hq
  by_cases hj : j ∈ ps
  · obtain ⟨i, hi, he⟩ := List.mem_iff_getElem.mp hj
    have h1 : (ps.map (fun i => ws[i]?))[i]? = some (some q) := by
      rw [List.getElem?_map, List.getElem?_eq_getElem hi, he]
      show some (ws[j]?) = _
      rw [hq]
    rw [hC, List.getElem?_map] at h1
    cases hw : K[i]? with
    | none => rw [hw] at h1; cases h1
    | some x =>
      rw [hw] at h1
      cases h1
      exact hP1 i _ hw
  · refine (hP j q hq).kept (hk j q hq ?_)
    intro i e hi
    have h2 : (K.map some)[i]? = some (some (q.1, e)) := by rw [List.getElem?_map, hi]; rfl
    rw [← hC, List.getElem?_map] at h2
    cases hp : ps[i]? with
    | none => rw [hp] at h2; cases h2
    | some x =>
      rw [hp] at h2
      have h3 : ws[x]? = some (q.1, e) := Option.some.inj h2
      have : j = x := hD.1 j x _ _ hq h3 rfl
      exact hj (this ▸ List.mem_of_getElem? hp)
/-- some cells are read, the last one is written -/
theorem Jn.tailx {S : Type} {D : va_G} {A : Nat → Prop} {ws K : va_W} {H : Heap} {a : Nat} {e0 : va_E} {y : S → va_E} (hP : va_P D vwCl (ws ++ [(a, e0)]) H) (hD : va_D A (ws ++ [(a, e0)])) (ps : List Nat) (hC : ps.map (fun i => ws[i]?) = K.map some) : Jn D A (K ++ [(a, e0)]) H (fun u => K ++ [(a, y u)]) (fun u => ws ++ [(a, y u)]) := by
  intro u H1 hP1 hD1 hz hk hF
  have hws : va_P D vwCl ws H1 := keepP (P_left hP) (D_left hD) ps hC (P_left hP1) (fun j q hq hn => hk _ (P_left hP j q hq).lt (by
    rintro (⟨i, e, hi⟩ | hi)
    · rcases Nat.lt_or_ge i K.length with h | h
      · rw [List.getElem?_append_left h] at hi
        exact hn i e hi
      · rw [List.getElem?_append_right h] at hi
        have := (one_at hi).2
        exact D_apart hD hq (show [(a, e0)][0]? = some (a, e0) from rfl) (show q.1 = a from congrArg (fun z : Nat × va_E => z.1) this)
    · exact absurd (P_left hP j q hq).lt (by omega)))
  refine ⟨hws.app (P_right hP1), (D_left hD).app ⟨fun i j p q hi hj e => by rw [(one_at hi).1, (one_at hj).1], fun j q hq => ?_⟩ (fun i j p q hi hj e => ?_)⟩
  · rw [(one_at hq).2]
    exact (D_right hD).2 0 (a, e0) rfl
  · have := (one_at hj).2
    exact D_apart hD hi (show [(a, e0)][0]? = some (a, e0) from rfl) (by rw [e, this])
/-- some cells are read, a new one comes behind -/
theorem Jn.grow {S : Type} {D : va_G} {A : Nat → Prop} {ws K : va_W} {H : Heap} {y : S → Nat × va_E} (hP : va_P D vwCl ws H) (hD : va_D A ws) (ps : List Nat) (hC : ps.map (fun i => ws[i]?) = K.map some) : Jn D A K H (fun u => K ++ [y u]) (fun u => ws ++ [y u]) := by
  intro u H1 hP1 hD1 hz hk hF
  have hws : va_P D vwCl ws H1 := keepP hP hD ps hC (P_left hP1) (fun j q hq hn => hk _ (hP j q hq).lt (by
    rintro (⟨i, e, hi⟩ | hi)
    · exact hn i e hi
    · exact absurd (hP j q hq).lt (by omega)))
  have hy : H.size ≤ (y u).1 := by
    rcases hD1.2 (K.length + 0) (y u) (app_r rfl) with ⟨i, e, hi⟩ | h
    · exact absurd rfl (D_apart (p := ((y u).1, e)) (q := y u) hD1 hi (show [y u][0]? = some (y u) from rfl))
    · exact h
  refine ⟨hws.app (P_right hP1), hD.app ⟨fun i j p q hi hj e => by rw [(one_at hi).1, (one_at hj).1], fun j q hq => ?_⟩ (fun i j p q hi hj e => ?_)⟩
  · rw [(one_at hq).2]
    exact hF _ (Or.inr hy)
  · have h1 := (hP i p hi).lt
    have h2 := (one_at hj).2
    rw [e, h2] at h1
    omega
theorem gA_F {a c : Cond} {own C : String} {idx : Nat} {x y : MethodName} (h1 : Cond.methodLink own idx x ∈ wALL) (h2 : Cond.selects C x y ∈ wALL) (h3 : Cond.instanceMethod y ∈ wALL) (h4 : Cond.initialized y.cls ∈ wALL) (hc : c ∈ wALL) : GoodIn (a :: wALL) (va_wsF own idx C x y (c :: wALL)) := gA (by
  intro w hw
  rcases List.mem_append.mp hw with h | h
  · rcases List.mem_cons.mp h with rfl | h
    · exact h1
    · rcases List.mem_cons.mp h with rfl | h
      · exact h2
      · rcases List.mem_cons.mp h with rfl | h
        · exact h3
        · rcases List.mem_cons.mp h with rfl | h
          · exact h4
          · simp at h
  · exact gA_c hc w h)
