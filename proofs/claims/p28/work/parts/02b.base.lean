/-! METHODS THAT ANSWER A CELL -/
section FR
variable {S : Type} {l : Launch} {y : MethodName} {wsy wsy' : List Cond} {cc : ByteArray} {maxL : Nat} {rm : Room} {mc ms : Nat} {D : va_G} {k : Nat → Nat} {W0 : va_W} {wf : S → va_W} {av : List Value} {sz : Nat}
theorem fw_r {rt : FieldType} {post : Nat → S → Prop} (hrt : (∃ n, rt = .object n) ∨ ∃ t, rt = .array t) (hy : plainName y.cls = true) (hw : wsy = Cond.code y cc maxL (some rt) :: wsy') (hlen : (lg_sl av).length ≤ maxL)
    (body : ∀ (p : Program) (e : Env) (s : State) (m : MethodId) (args : Array Value) (below : List Frame) (meth : Method) (c : Code) (A : Nat → Prop) (Q : State → Prop) (ls : Array Slot),
      Cx p m c cc maxL s args wsy y.cls D k A → va_P D vwCl W0 s.heap → va_D A W0 → lv_has ls maxL (lv_args 0 av) →
      (∀ (r : Nat) (u : S) (H : Heap) (locs : List Loc) (cells slots pc : Nat) (ls' : Array Slot), decode cc pc = .ok (.areturn, 1) → va_P D vwCl (wf u) H → va_D A (wf u) → va_S A s.heap H locs → cells ≤ mc → slots ≤ ms → post r u → W p l e rm s m args below meth c H locs cells slots Q (F0 m pc ls' [.ref r])) →
      W p l e rm s m args below meth c s.heap [] 0 0 Q (F0 m 0 ls [])) :
    Met l y wsy rm (va_Pc av (Pw D k W0 sz)) (va_Qr (fun z : Nat × S => post z.1 z.2) (fun z a t => a = z.1 ∧ Bw D W0 sz (wf z.2) t) (va_A W0 sz)) mc ms (va_A W0 sz) := by
  refine Met.ofW (cc := cc) (maxL := maxL) (ret := some rt) hy hw ?_
  intro p e s m args below meth c s₁ B hml hv
  obtain ⟨rfl, hsz, hP, hD0, hG⟩ := hv
  subst hsz
  have hown9 : s.vm.findClass y.cls = some m.cls := findClass_of_methodNamed B.named
  have hlocks := B.notSynchronized
  have hl := lv_entry av hlen
  rw [lg_entry_eq]
  generalize (lg_sl av ++ List.replicate (maxL - (lg_sl av).length) Slot.unset).toArray = ls at hl ⊢
  refine body p e s m _ below meth c (va_A W0 s.heap.size) _ ls ⟨⟨B.exec, B.bytes, hml, hown9, atoms_spec (ws := wsy) B.pre⟩, hG, fun q h => Or.inr h⟩ hP hD0.self hl ?_
  intro r u H locs cells slots pc ls' hdg hP hD hS hc hs hq
  refine W.widen hc hs ?_
  exact W.aret B.exec B.bytes B.returns hrt (Or.inr ⟨r, rfl⟩) (fun t ht hW => ⟨⟨(r, u), r, rfl, hq, rfl, by rw [ht]; exact hP, hD⟩, hS.F ht⟩) hS.2.2 hdg
end FR
section FCR
variable {p : Program} {l : Launch} {e : Env} {R : Room} {s : State} {m : MethodId} {args : Array Value} {below : List Frame} {meth : Method} {c : Code} {H : Heap} {locs : List Loc} {cells slots : Nat} {Q : State → Prop}
variable {S : Type} {y : MethodName} {wsy Ts : List Cond} {rmy : Room} {bytes cc : ByteArray} {maxL nL mc ms n index pc : Nat} {ret : Option FieldType} {own C9 : String} {b : Nat} {As rest st : List Value} {wc : va_W} {wf wN : S → va_W} {D : va_G} {k : Nat → Nat} {A : Nat → Prop} {ls : Array Slot}
theorem fw_crV {post : Nat → S → Prop} (hC : Cx p m c cc nL s args Ts own D k A)
    (hM : Met l y wsy rmy (va_Pc (.ref b :: As) (Pw D k wc H.size)) (va_Qr (fun z : Nat × S => post z.1 z.2) (fun z a t => a = z.1 ∧ Bw D wc H.size (wf z.2) t) (va_A wc H.size)) mc ms (va_A wc H.size))
    (cw : CallW R s args own C9 index y bytes maxL ret wsy rmy mc ms n) (hr : ∃ cell : Cell, H[b]? = some cell ∧ cell.vm.isStatics = false ∧ s.vm.findClass C9 = some cell.cls)
    (hn : As.length = n) (hsz : ls.size = nL) (hst : st = As.reverse ++ .ref b :: rest) (hW : (rest.map fun v => v.category).sum ≤ 8) (hdg : decode cc pc = .ok (.invokevirtual index, 3)) (hf : cells + mc ≤ R.cells ∧ slots + ms ≤ R.slots)
    (hPc : va_P D vwCl wc H) (hDc : va_D A wc) (hS : va_S A s.heap H locs) (J : Jn D A wc H wf wN)
    (kk : ∀ (r : Nat) (u : S) (H1 : Heap) (locs1 : List Loc), va_P D vwCl (wN u) H1 → va_D A (wN u) → va_S A s.heap H1 locs1 → post r u → W p l e R s m args below meth c H1 locs1 (cells + mc) (slots + ms) Q (F0 m (pc + 3) ls (.ref r :: rest))) :
    W p l e R s m args below meth c H locs cells slots Q (F0 m pc ls st) := by
  have hFc := va_free0 hDc hS hC.2.2
  refine va_callr (va_runV (As := As) (rest := rest) hC.1 hM cw ⟨Pw_blind, hr, fw_pre hC hPc hDc hS⟩ rfl hn hsz hst (lv_room hW) hdg hf) hS (fun q _ h => hFc q h) hFc (fun z ra t H1 locs1 ht hvm hq hB hz1 hk1 hS1 => ?_)
  obtain ⟨rfl, hP1, hD1⟩ := hB
  rw [ht] at hP1
  obtain ⟨hP2, hD2⟩ := J z.2 H1 hP1 hD1 hz1 hk1 hFc
  exact kk z.1 z.2 H1 locs1 hP2 hD2 hS1 hq
theorem fw_crS {post : Nat → S → Prop} (hC : Cx p m c cc nL s args Ts own D k A)
    (hM : Met l y wsy rmy (va_Pc As (Pw D k wc H.size)) (va_Qr (fun z : Nat × S => post z.1 z.2) (fun z a t => a = z.1 ∧ Bw D wc H.size (wf z.2) t) (va_A wc H.size)) mc ms (va_A wc H.size))
    (cw : CallB R s args own index y bytes maxL ret wsy rmy mc ms n ∧ (Cond.static y).before args s = true)
    (hn : As.length = n) (hsz : ls.size = nL) (hst : st = As.reverse ++ rest) (hW : (rest.map fun v => v.category).sum ≤ 8) (hdg : decode cc pc = .ok (.invokestatic index, 3)) (hf : cells + mc ≤ R.cells ∧ slots + ms ≤ R.slots)
    (hPc : va_P D vwCl wc H) (hDc : va_D A wc) (hS : va_S A s.heap H locs) (J : Jn D A wc H wf wN)
    (kk : ∀ (r : Nat) (u : S) (H1 : Heap) (locs1 : List Loc), va_P D vwCl (wN u) H1 → va_D A (wN u) → va_S A s.heap H1 locs1 → post r u → W p l e R s m args below meth c H1 locs1 (cells + mc) (slots + ms) Q (F0 m (pc + 3) ls (.ref r :: rest))) :
    W p l e R s m args below meth c H locs cells slots Q (F0 m pc ls st) := by
  have hFc := va_free0 hDc hS hC.2.2
  refine va_callr (va_runS (As := As) (rest := rest) hC.1 hM cw ⟨Pw_blind, fw_pre hC hPc hDc hS⟩ rfl hn hsz hst (lv_room hW) hdg hf) hS (fun q _ h => hFc q h) hFc (fun z ra t H1 locs1 ht hvm hq hB hz1 hk1 hS1 => ?_)
  obtain ⟨rfl, hP1, hD1⟩ := hB
  rw [ht] at hP1
  obtain ⟨hP2, hD2⟩ := J z.2 H1 hP1 hD1 hz1 hk1 hFc
  exact kk z.1 z.2 H1 locs1 hP2 hD2 hS1 hq
end FCR
/-- cells that a callee leaves as they were -/
theorem Jn.keep {S : Type} {D : va_G} {A : Nat → Prop} {ws wc : va_W} {H : Heap} {w0 : S → va_W} (hP : va_P D vwCl ws H) (hD : va_D A ws) (ps : List Nat) (hC : ps.map (fun i => ws[i]?) = wc.map some) (h0 : ∀ u, w0 u = wc) : Jn D A wc H w0 (fun _ => ws) := by
  intro u H1 hP1 hD1 hz hk hF
  rw [h0] at hP1
  refine ⟨fun j q hq => ?_, hD⟩
  by_cases hj : j ∈ ps
  · obtain ⟨i, hi, he⟩ := List.mem_iff_getElem.mp hj
    have h1 : (ps.map (fun i => ws[i]?))[i]? = some (some q) := by
      rw [List.getElem?_map, List.getElem?_eq_getElem hi, he]
      show some (ws[j]?) = _
      rw [hq]
    rw [hC, List.getElem?_map] at h1
    cases hw : wc[i]? with
    | none => rw [hw] at h1; cases h1
    | some x =>
      rw [hw] at h1
      cases h1
      exact hP1 i _ hw
  · refine (hP j q hq).kept (hk _ (hP j q hq).lt ?_)
    rintro (⟨i, e, hi⟩ | hi)
    · have h2 : (wc.map some)[i]? = some (some (q.1, e)) := by rw [List.getElem?_map, hi]; rfl
      rw [← hC, List.getElem?_map] at h2
      cases hp : ps[i]? with
      | none => rw [hp] at h2; cases h2
      | some x =>
        rw [hp] at h2
        have h3 : ws[x]? = some (q.1, e) := Option.some.inj h2
        have : j = x := hD.1 j x _ _ hq h3 rfl
        exact hj (this ▸ List.mem_of_getElem? hp)
    · exact absurd (hP j q hq).lt (by omega)
theorem P_left {D : va_G} {X Y : va_W} {H : Heap} (h : va_P D vwCl (X ++ Y) H) : va_P D vwCl X H := fun j q hq => h j q (by rw [List.getElem?_append_left (List.getElem?_eq_some_iff.mp hq).1]; exact hq)
theorem P_right {D : va_G} {X Y : va_W} {H : Heap} (h : va_P D vwCl (X ++ Y) H) : va_P D vwCl Y H := fun j q hq => h (X.length + j) q (by rw [List.getElem?_append_right (by omega)]; rw [show X.length + j - X.length = j by omega]; exact hq)
theorem D_left {A : Nat → Prop} {X Y : va_W} (h : va_D A (X ++ Y)) : va_D A X := by
  have hx : ∀ (j : Nat) (q : Nat × va_E), X[j]? = some q → (X ++ Y)[j]? = some q := fun j q hq => by rw [List.getElem?_append_left (List.getElem?_eq_some_iff.mp hq).1]; exact hq
  exact ⟨fun i j p q hi hj e => h.1 i j p q (hx _ _ hi) (hx _ _ hj) e, fun j q hq => h.2 j q (hx _ _ hq)⟩
theorem D_right {A : Nat → Prop} {X Y : va_W} (h : va_D A (X ++ Y)) : va_D A Y := by
  have hx : ∀ (j : Nat) (q : Nat × va_E), Y[j]? = some q → (X ++ Y)[X.length + j]? = some q := fun j q hq => by rw [List.getElem?_append_right (by omega), show X.length + j - X.length = j by omega]; exact hq
  exact ⟨fun i j p q hi hj e => by have := h.1 _ _ p q (hx _ _ hi) (hx _ _ hj) e; omega, fun j q hq => h.2 _ q (hx _ _ hq)⟩
theorem D_apart {A : Nat → Prop} {X Y : va_W} (h : va_D A (X ++ Y)) {i j : Nat} {p q : Nat × va_E} (hp : X[i]? = some p) (hq : Y[j]? = some q) : p.1 ≠ q.1 := fun e => by
  have hi : i < X.length := (List.getElem?_eq_some_iff.mp hp).1
  have := h.1 i (X.length + j) p q (by rw [List.getElem?_append_left hi]; exact hp) (by rw [List.getElem?_append_right (by omega), show X.length + j - X.length = j by omega]; exact hq) e
  omega
/-- the callee's world is the first part of the caller's -/
theorem Jn.left {S : Type} {D : va_G} {A : Nat → Prop} {X Y : va_W} {H : Heap} {wf : S → va_W} (hP : va_P D vwCl (X ++ Y) H) (hD : va_D A (X ++ Y)) : Jn D A X H wf (fun u => wf u ++ Y) := by
  intro u H1 hP1 hD1 hz hk hF
  have hY : ∀ (j : Nat) (q : Nat × va_E), Y[j]? = some q → ¬ va_A X H.size q.1 := fun j q hq => by
    rintro (⟨i, e, hi⟩ | hi)
    · exact D_apart hD hi hq rfl
    · exact absurd (P_right hP j q hq).lt (by omega)
  refine ⟨hP1.app (fun j q hq => (P_right hP j q hq).kept (hk _ (P_right hP j q hq).lt (hY j q hq))), ?_⟩
  refine (hD1.weaken (fun _ _ _ h => hF _ h)).app (D_right hD) (fun i j p q hi hj e => ?_)
  exact hY j q hj (e ▸ hD1.2 i p hi)
/-- the callee's world is the last part of the caller's -/
theorem Jn.right {S : Type} {D : va_G} {A : Nat → Prop} {X Y : va_W} {H : Heap} {wf : S → va_W} (hP : va_P D vwCl (X ++ Y) H) (hD : va_D A (X ++ Y)) : Jn D A Y H wf (fun u => X ++ wf u) := by
  intro u H1 hP1 hD1 hz hk hF
  have hX : ∀ (j : Nat) (q : Nat × va_E), X[j]? = some q → ¬ va_A Y H.size q.1 := fun j q hq => by
    rintro (⟨i, e, hi⟩ | hi)
    · exact D_apart hD hq hi rfl
    · exact absurd (P_left hP j q hq).lt (by omega)
  have hPX : va_P D vwCl X H1 := fun j q hq => (P_left hP j q hq).kept (hk _ (P_left hP j q hq).lt (hX j q hq))
  refine ⟨hPX.app hP1, ?_⟩
  refine (D_left hD).app (hD1.weaken (fun _ _ _ h => hF _ h)) (fun i j p q hi hj e => ?_)
  exact hX i p hi (e ▸ hD1.2 j q hj)
