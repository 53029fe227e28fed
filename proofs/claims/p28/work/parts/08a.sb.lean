/-! CALLS of inherited methods (U) and by super (SU) -/
section FCU
variable {p : Program} {l : Launch} {e : Env} {R : Room} {s : State} {m : MethodId} {args : Array Value} {below : List Frame} {meth : Method} {c : Code} {H : Heap} {locs : List Loc} {cells slots : Nat} {Q : State → Prop}
variable {S : Type} {x y : MethodName} {wsy Ts : List Cond} {rmy : Room} {bytes cc : ByteArray} {maxL nL mc ms n index pc : Nat} {ret : Option FieldType} {own owner C9 : String} {c9 : ClassId} {b : Nat} {As rest st : List Value} {wc : va_W} {wf wN : S → va_W} {D : va_G} {k : Nat → Nat} {A : Nat → Prop} {ls : Array Slot}
theorem fw_ciU {post : Int32 → S → Prop} (hC : Cx p m c cc nL s args Ts own D k A)
    (hM : Met l y wsy rmy (va_Pc (.ref b :: As) (Pw D k wc H.size)) (va_Qi post (fun u => Bw D wc H.size (wf u)) (va_A wc H.size)) mc ms (va_A wc H.size))
    (cw : va_CU R s args own C9 owner index x y bytes maxL ret wsy rmy mc ms n) (hr : ∃ cell : Cell, H[b]? = some cell ∧ cell.vm.isStatics = false ∧ s.vm.findClass C9 = some cell.cls)
    (hn : As.length = n) (hsz : ls.size = nL) (hst : st = As.reverse ++ .ref b :: rest) (hW : (rest.map fun v => v.category).sum ≤ 8) (hdg : decode cc pc = .ok (.invokevirtual index, 3)) (hf : cells + mc ≤ R.cells ∧ slots + ms ≤ R.slots)
    (hPc : va_P D vwCl wc H) (hDc : va_D A wc) (hS : va_S A s.heap H locs) (J : Jn D A wc H wf wN)
    (kk : ∀ (r : Int32) (u : S) (H1 : Heap) (locs1 : List Loc), va_P D vwCl (wN u) H1 → va_D A (wN u) → va_S A s.heap H1 locs1 → post r u → W p l e R s m args below meth c H1 locs1 (cells + mc) (slots + ms) Q (F0 m (pc + 3) ls (.int r :: rest))) :
    W p l e R s m args below meth c H locs cells slots Q (F0 m pc ls st) := by
  have hFc := va_free0 hDc hS hC.2.2
  refine va_calli (va_runU (As := As) (rest := rest) hC.1 hM cw ⟨Pw_blind, hr, fw_pre hC hPc hDc hS⟩ rfl hn hsz hst (lv_room hW) hdg hf) hS (fun q _ h => hFc q h) hFc (fun r u t H1 locs1 ht hvm hq hB hz1 hk1 hS1 => ?_)
  obtain ⟨hP1, hD1⟩ := hB
  rw [ht] at hP1
  obtain ⟨hP2, hD2⟩ := J u H1 hP1 hD1 hz1 hk1 hFc
  exact kk r u H1 locs1 hP2 hD2 hS1 hq
theorem fw_cvU {post : S → Prop} (hC : Cx p m c cc nL s args Ts own D k A)
    (hM : Met l y wsy rmy (va_Pc (.ref b :: As) (Pw D k wc H.size)) (va_Qv post (fun u => Bw D wc H.size (wf u)) (va_A wc H.size)) mc ms (va_A wc H.size))
    (cw : va_CU R s args own C9 owner index x y bytes maxL ret wsy rmy mc ms n) (hr : ∃ cell : Cell, H[b]? = some cell ∧ cell.vm.isStatics = false ∧ s.vm.findClass C9 = some cell.cls)
    (hn : As.length = n) (hsz : ls.size = nL) (hst : st = As.reverse ++ .ref b :: rest) (hW : (rest.map fun v => v.category).sum ≤ 8) (hdg : decode cc pc = .ok (.invokevirtual index, 3)) (hf : cells + mc ≤ R.cells ∧ slots + ms ≤ R.slots)
    (hPc : va_P D vwCl wc H) (hDc : va_D A wc) (hS : va_S A s.heap H locs) (J : Jn D A wc H wf wN)
    (kk : ∀ (u : S) (H1 : Heap) (locs1 : List Loc), va_P D vwCl (wN u) H1 → va_D A (wN u) → va_S A s.heap H1 locs1 → post u → W p l e R s m args below meth c H1 locs1 (cells + mc) (slots + ms) Q (F0 m (pc + 3) ls rest)) :
    W p l e R s m args below meth c H locs cells slots Q (F0 m pc ls st) := by
  have hFc := va_free0 hDc hS hC.2.2
  refine va_callv (va_runU (As := As) (rest := rest) hC.1 hM cw ⟨Pw_blind, hr, fw_pre hC hPc hDc hS⟩ rfl hn hsz hst (lv_room hW) hdg hf) hS (fun q _ h => hFc q h) hFc (fun u t H1 locs1 ht hvm hq hB hz1 hk1 hS1 => ?_)
  obtain ⟨hP1, hD1⟩ := hB
  rw [ht] at hP1
  obtain ⟨hP2, hD2⟩ := J u H1 hP1 hD1 hz1 hk1 hFc
  exact kk u H1 locs1 hP2 hD2 hS1 hq
theorem fw_crU {post : Nat → S → Prop} (hC : Cx p m c cc nL s args Ts own D k A)
    (hM : Met l y wsy rmy (va_Pc (.ref b :: As) (Pw D k wc H.size)) (va_Qr (fun z : Nat × S => post z.1 z.2) (fun z a t => a = z.1 ∧ Bw D wc H.size (wf z.2) t) (va_A wc H.size)) mc ms (va_A wc H.size))
    (cw : va_CU R s args own C9 owner index x y bytes maxL ret wsy rmy mc ms n) (hr : ∃ cell : Cell, H[b]? = some cell ∧ cell.vm.isStatics = false ∧ s.vm.findClass C9 = some cell.cls)
    (hn : As.length = n) (hsz : ls.size = nL) (hst : st = As.reverse ++ .ref b :: rest) (hW : (rest.map fun v => v.category).sum ≤ 8) (hdg : decode cc pc = .ok (.invokevirtual index, 3)) (hf : cells + mc ≤ R.cells ∧ slots + ms ≤ R.slots)
    (hPc : va_P D vwCl wc H) (hDc : va_D A wc) (hS : va_S A s.heap H locs) (J : Jn D A wc H wf wN)
    (kk : ∀ (r : Nat) (u : S) (H1 : Heap) (locs1 : List Loc), va_P D vwCl (wN u) H1 → va_D A (wN u) → va_S A s.heap H1 locs1 → post r u → W p l e R s m args below meth c H1 locs1 (cells + mc) (slots + ms) Q (F0 m (pc + 3) ls (.ref r :: rest))) :
    W p l e R s m args below meth c H locs cells slots Q (F0 m pc ls st) := by
  have hFc := va_free0 hDc hS hC.2.2
  refine va_callr (va_runU (As := As) (rest := rest) hC.1 hM cw ⟨Pw_blind, hr, fw_pre hC hPc hDc hS⟩ rfl hn hsz hst (lv_room hW) hdg hf) hS (fun q _ h => hFc q h) hFc (fun z ra t H1 locs1 ht hvm hq hB hz1 hk1 hS1 => ?_)
  obtain ⟨rfl, hP1, hD1⟩ := hB
  rw [ht] at hP1
  obtain ⟨hP2, hD2⟩ := J z.2 H1 hP1 hD1 hz1 hk1 hFc
  exact kk z.1 z.2 H1 locs1 hP2 hD2 hS1 hq
theorem fw_crSU {post : Nat → S → Prop} (hC : Cx p m c cc nL s args Ts own D k A)
    (hM : Met l y wsy rmy (va_Pc (.ref b :: As) (Pw D k wc H.size)) (va_Qr (fun z : Nat × S => post z.1 z.2) (fun z a t => a = z.1 ∧ Bw D wc H.size (wf z.2) t) (va_A wc H.size)) mc ms (va_A wc H.size))
    (hat : ClassAt s C9 c9) (cw : va_CS R s args own index y bytes maxL ret wsy rmy mc ms n) (hr : ∃ cell : Cell, H[b]? = some cell ∧ cell.vm.isStatics = false ∧ s.vm.findClass C9 = some cell.cls)
    (hn : As.length = n) (hsz : ls.size = nL) (hst : st = As.reverse ++ .ref b :: rest) (hW : (rest.map fun v => v.category).sum ≤ 8) (hdg : decode cc pc = .ok (.invokespecial index, 3)) (hf : cells + mc ≤ R.cells ∧ slots + ms ≤ R.slots)
    (hPc : va_P D vwCl wc H) (hDc : va_D A wc) (hS : va_S A s.heap H locs) (J : Jn D A wc H wf wN)
    (kk : ∀ (r : Nat) (u : S) (H1 : Heap) (locs1 : List Loc), va_P D vwCl (wN u) H1 → va_D A (wN u) → va_S A s.heap H1 locs1 → post r u → W p l e R s m args below meth c H1 locs1 (cells + mc) (slots + ms) Q (F0 m (pc + 3) ls (.ref r :: rest))) :
    W p l e R s m args below meth c H locs cells slots Q (F0 m pc ls st) := by
  have hFc := va_free0 hDc hS hC.2.2
  refine va_callr (va_runSU (As := As) (rest := rest) hat hC.1 hM cw ⟨Pw_blind, hr, fw_pre hC hPc hDc hS⟩ rfl hn hsz hst (lv_room hW) hdg hf) hS (fun q _ h => hFc q h) hFc (fun z ra t H1 locs1 ht hvm hq hB hz1 hk1 hS1 => ?_)
  obtain ⟨rfl, hP1, hD1⟩ := hB
  rw [ht] at hP1
  obtain ⟨hP2, hD2⟩ := J z.2 H1 hP1 hD1 hz1 hk1 hFc
  exact kk z.1 z.2 H1 locs1 hP2 hD2 hS1 hq
theorem fw_ciSU {post : Int32 → S → Prop} (hC : Cx p m c cc nL s args Ts own D k A)
    (hM : Met l y wsy rmy (va_Pc (.ref b :: As) (Pw D k wc H.size)) (va_Qi post (fun u => Bw D wc H.size (wf u)) (va_A wc H.size)) mc ms (va_A wc H.size))
    (hat : ClassAt s C9 c9) (cw : va_CS R s args own index y bytes maxL ret wsy rmy mc ms n) (hr : ∃ cell : Cell, H[b]? = some cell ∧ cell.vm.isStatics = false ∧ s.vm.findClass C9 = some cell.cls)
    (hn : As.length = n) (hsz : ls.size = nL) (hst : st = As.reverse ++ .ref b :: rest) (hW : (rest.map fun v => v.category).sum ≤ 8) (hdg : decode cc pc = .ok (.invokespecial index, 3)) (hf : cells + mc ≤ R.cells ∧ slots + ms ≤ R.slots)
    (hPc : va_P D vwCl wc H) (hDc : va_D A wc) (hS : va_S A s.heap H locs) (J : Jn D A wc H wf wN)
    (kk : ∀ (r : Int32) (u : S) (H1 : Heap) (locs1 : List Loc), va_P D vwCl (wN u) H1 → va_D A (wN u) → va_S A s.heap H1 locs1 → post r u → W p l e R s m args below meth c H1 locs1 (cells + mc) (slots + ms) Q (F0 m (pc + 3) ls (.int r :: rest))) :
    W p l e R s m args below meth c H locs cells slots Q (F0 m pc ls st) := by
  have hFc := va_free0 hDc hS hC.2.2
  refine va_calli (va_runSU (As := As) (rest := rest) hat hC.1 hM cw ⟨Pw_blind, hr, fw_pre hC hPc hDc hS⟩ rfl hn hsz hst (lv_room hW) hdg hf) hS (fun q _ h => hFc q h) hFc (fun r u t H1 locs1 ht hvm hq hB hz1 hk1 hS1 => ?_)
  obtain ⟨hP1, hD1⟩ := hB
  rw [ht] at hP1
  obtain ⟨hP2, hD2⟩ := J u H1 hP1 hD1 hz1 hk1 hFc
  exact kk r u H1 locs1 hP2 hD2 hS1 hq
end FCU
theorem gA_U {a c : Cond} {own C owner : String} {idx : Nat} {x y : MethodName} (h1 : Cond.methodLink own idx x ∈ wALL) (h2 : Cond.sameMethod x.cls owner x.name x.desc ∈ wALL) (h3 : Cond.selects C x y ∈ wALL) (h4 : Cond.instanceMethod y ∈ wALL) (h5 : Cond.initialized y.cls ∈ wALL) (hc : c ∈ wALL) : GoodIn (a :: wALL) (va_wsU own idx C owner x y (c :: wALL)) := gA (by
  intro w hw
  rcases List.mem_append.mp hw with h | h
  · rcases List.mem_cons.mp h with rfl | h
    · exact h1
    · rcases List.mem_cons.mp h with rfl | h
      · exact h2
      · rcases List.mem_cons.mp h with rfl | h
        · exact h3
        · rcases List.mem_cons.mp h with rfl | h
          · exact h4
          · rcases List.mem_cons.mp h with rfl | h
            · exact h5
            · simp at h
  · exact gA_c hc w h)
theorem gA_O {a c : Cond} {own C owner : String} {idx : Nat} {x y : MethodName} (h1 : Cond.methodLink own idx x ∈ wALL) (h2 : Cond.sameMethod x.cls owner x.name x.desc ∈ wALL) (h3 : Cond.instanceMethod ⟨owner, x.name, x.desc⟩ ∈ wALL) (h4 : Cond.selects C x y ∈ wALL) (h5 : Cond.instanceMethod y ∈ wALL) (h6 : Cond.initialized y.cls ∈ wALL) (hc : c ∈ wALL) : GoodIn (a :: wALL) (va_wsO own idx C owner x y (c :: wALL)) := gA (by
  intro w hw
  rcases List.mem_append.mp hw with h | h
  · rcases List.mem_cons.mp h with rfl | h
    · exact h1
    · rcases List.mem_cons.mp h with rfl | h
      · exact h2
      · rcases List.mem_cons.mp h with rfl | h
        · exact h3
        · rcases List.mem_cons.mp h with rfl | h
          · exact h4
          · rcases List.mem_cons.mp h with rfl | h
            · exact h5
            · rcases List.mem_cons.mp h with rfl | h
              · exact h6
              · simp at h
  · exact gA_c hc w h)
theorem gA_SU {a c : Cond} {own : String} {idx : Nat} {y : MethodName} (h1 : Cond.methodLink own idx y ∈ wALL) (h2 : Cond.sameMethod y.cls y.cls y.name y.desc ∈ wALL) (h3 : Cond.superclass own y.cls ∈ wALL) (h4 : Cond.instanceMethod y ∈ wALL) (h5 : Cond.initialized y.cls ∈ wALL) (hc : c ∈ wALL) : GoodIn (a :: wALL) (va_wsSU own idx y (c :: wALL)) := gA (by
  intro w hw
  rcases List.mem_append.mp hw with h | h
  · rcases List.mem_cons.mp h with rfl | h
    · exact h1
    · rcases List.mem_cons.mp h with rfl | h
      · exact h2
      · rcases List.mem_cons.mp h with rfl | h
        · exact h3
        · rcases List.mem_cons.mp h with rfl | h
          · exact h4
          · rcases List.mem_cons.mp h with rfl | h
            · exact h5
            · simp at h
  · exact gA_c hc w h)
/-! A STRING BUILDER AND ITS BYTES; a string and its bytes -/
def WB (k ad : Nat → Nat) (n : Nat) (σ : Mem) : va_W := [(ad 0, .inr (1, [.ref (ad 1), .int (σ 0 1), .int (σ 0 2), .int (σ 0 3)])), (ad 1, .inl (k 4, n, .inl (σ 1)))]
def WBy (k ad : Nat → Nat) (n : Nat) (σ : Mem) : va_W := [(ad 0, .inl (k 4, n, .inl (σ 0)))]
section FXR
variable {S : Type} {l : Launch} {y : MethodName} {wsy wsy' : List Cond} {cc : ByteArray} {maxL : Nat} {rm : Room} {mc ms : Nat} {D : va_G} {k : Nat → Nat} {W0 : va_W} {wf : S → va_W} {av : List Value} {sz : Nat}
/-- a method that answers a cell, or throws -/
theorem fw_xr {rt : FieldType} {post : Nat → S → Prop} {px : String → S → Prop} (hflag : l.stackTraces = false) (hrt : (∃ n, rt = .object n) ∨ ∃ t, rt = .array t) (hy : plainName y.cls = true) (hw : wsy = Cond.code y cc maxL (some rt) :: wsy') (hlen : (lg_sl av).length ≤ maxL)
    (body : ∀ (p : Program) (e : Env) (s : State) (m : MethodId) (args : Array Value) (below : List Frame) (meth : Method) (c : Code) (A : Nat → Prop) (Q : State → Prop) (ls : Array Slot),
      Cx p m c cc maxL s args wsy y.cls D k A → va_P D vwCl W0 s.heap → va_D A W0 → lv_has ls maxL (lv_args 0 av) →
      (∀ (r : Nat) (u : S) (H : Heap) (locs : List Loc) (cells slots pc : Nat) (ls' : Array Slot), decode cc pc = .ok (.areturn, 1) → va_P D vwCl (wf u) H → va_D A (wf u) → va_S A s.heap H locs → cells ≤ mc → slots ≤ ms → post r u → W p l e rm s m args below meth c H locs cells slots Q (F0 m pc ls' [.ref r])) →
      (∀ (cls text : String) (names : List String) (ik is ic sa : Nat) (u : S) (H : Heap) (locs : List Loc) (cells slots pc : Nat) (ls' : Array Slot) (rest : List Value),
        Bundle.fit cls = true → (∀ n ∈ names, Bundle.fit n = true) → (Cond.classLink y.cls ik cls).before args s = true → (Cond.initialized cls).before args s = true → vk_R y.cls is text sa s →
        (∀ w ∈ vx_atS y.cls ic cls names, w.before args s = true) → (∀ w ∈ Cond.classLink y.cls ik cls :: Cond.initialized cls :: vx_atS y.cls ic cls names, vx_ot w = true) → ls'.size = maxL →
        decode cc pc = .ok (.new ik, 3) → decode cc (pc + 3) = .ok (.dup, 1) → decode cc (pc + 4) = .ok (.ldc is, 2) → decode cc (pc + 6) = .ok (.invokespecial ic, 3) → decode cc (pc + 9) = .ok (.athrow, 1) →
        names.length + 3 < rm.frames → (rest.map fun v => v.category).sum + (13 * (names.length + 1) + 43) ≤ rm.locals → cells + 1 ≤ rm.cells → slots + 6 ≤ rm.slots →
        va_P D vwCl (wf u) H → va_D A (wf u) → va_S A s.heap H locs → cells + 1 ≤ mc → slots + 6 ≤ ms → px cls u → W p l e rm s m args below meth c H locs cells slots Q (F0 m pc ls' rest)) →
      W p l e rm s m args below meth c s.heap [] 0 0 Q (F0 m 0 ls [])) :
    vx_Met l y wsy rm (va_Pc av (Pw D k W0 sz)) (va_Qr (fun z : Nat × S => post z.1 z.2) (fun z a t => a = z.1 ∧ Bw D W0 sz (wf z.2) t) (va_A W0 sz)) (vx_X (fun z : String × S => px z.1 z.2) (fun E z t => E = z.1 ∧ Bw D W0 sz (wf z.2) t) (va_A W0 sz)) mc ms (va_A W0 sz) := by
  refine vx_ofW (cc := cc) (maxL := maxL) (ret := some rt) hy hw ?_
  intro p e s m args below meth c s₁ B hml htab hv
  obtain ⟨rfl, hsz, hP, hD0, hG⟩ := hv
  subst hsz
  have hown9 : s.vm.findClass y.cls = some m.cls := findClass_of_methodNamed B.named
  have hlocks := B.notSynchronized
  have hl := lv_entry av hlen
  rw [lg_entry_eq]
  generalize (lg_sl av ++ List.replicate (maxL - (lg_sl av).length) Slot.unset).toArray = ls at hl ⊢
  refine body p e s m _ below meth c (va_A W0 s.heap.size) _ ls ⟨⟨B.exec, B.bytes, hml, hown9, atoms_spec (ws := wsy) B.pre⟩, hG, fun q h => Or.inr h⟩ hP hD0.self hl ?_ ?_
  · intro r u H locs cells slots pc ls' hdg hP hD hS hc hs hq
    refine vx_ret (W.widen hc hs ?_)
    exact W.aret B.exec B.bytes B.returns hrt (Or.inr ⟨r, rfl⟩) (fun t ht hW => ⟨⟨(r, u), r, rfl, hq, rfl, by rw [ht]; exact hP, hD⟩, hS.F ht⟩) hS.2.2 hdg
  · intro cls text names ik is ic sa u H locs cells slots pc ls' rest hcls hnames hk9 hini hstr hat hgood hsize d0 d3 d4 d6 d9 r1 r2 r3 r4 hP hD hS hc hs hpx
    exact vx_throwS B.exec B.bytes hflag hown9 hcls hnames hk9 hini hstr hat hgood hG.2.2.2.1.1 hG.2.2.2.1.2 hS (by rw [hsize, hml]) d0 d3 d4 d6 d9 (fun x hx => (htab x hx).elim) r1 r2 r3 r4 hlocks
      (fun t hvm hz hkq => ⟨(cls, u), hpx, ⟨rfl, hP.kept (fun j q hq => hkq _ (hP j q hq).lt), hD⟩, Nat.le_trans hS.1 hz, fun q h1 h2 => (hkq q (Nat.lt_of_lt_of_le h1 hS.1)).trans (hS.2.1 q h1 h2)⟩) hS.2.2 hc hs
end FXR
