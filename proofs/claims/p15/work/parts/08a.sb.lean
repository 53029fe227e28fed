/-! CALLS of inherited methods (U) and by super (SU) -/
section FCU
variable {p : Program} {l : Launch} {e : Env} {R : Room} {s : State} {m : MethodId} {args : Array Value} {below : List Frame} {meth : Method} {c : Code} {H : Heap} {locs : List Loc} {cells slots : Nat} {Q : State → Prop}
variable {S : Type} {x y : MethodName} {wsy Ts : List Cond} {rmy : Room} {bytes cc : ByteArray} {maxL nL mc ms n index pc : Nat} {ret : Option FieldType} {own owner C9 : String} {c9 : ClassId} {b : Nat} {As rest st : List Value} {wc : va_W} {wf wN : S → va_W} {D : va_G} {k : Nat → Nat} {A : Nat → Prop} {ls : Array Slot}
theorem fw_ciU {post : Int32 → S → Prop} (hC : Cx p m c cc nL s args Ts own D k A)
    (hM : Met l y wsy rmy (va_Pc (.ref b :: As) (Pw D k wc H.size)) (va_Qi post (fun u => Bw D wc H.size (wf u)) (va_A wc H.size)) mc ms (va_A wc H.size))
    (cw : va_CU R s args own C9 owner index x y bytes maxL ret wsy rmy mc ms n) (hr : ∃ cell : Cell, H[b]? = some cell ∧ cell.vm.isStatics = false ∧ s.vm.findClass C9 = some cell.cls)
    (hn : As.length = n) (hsz : ls.size = nL) (hst : st = As.reverse ++ .ref b :: rest) (hW : (rest.map fun v => v.category).sum ≤ 8) (hdg : decode cc pc = .ok (.invokevirtual index, 3)) (hf : cells + mc ≤ R.cells ∧ slots + ms ≤ R.slots)
    (hPc : va_P D vwCl wc H) (hDc : va_D A wc) (hS : va_S A s.heap H locs) (J : Jn D A wc H wf wN)
    (kk : ∀ (r : Int32) (u : S) (H1 : Heap) (locs1 : List Loc), va_P D vwCl (wN u) H1 → va_D A (wN u) → va_S A s.heap H1 locs1 → post r u → W p l e R s m args below meth c H1 locs1 (cells + mc) (slots + ms) Q (F0 m (pc + 3) ls (.int r :: rest))) :
    W p l e R s m args below meth c H locs cells slots Q (F0 m pc ls st) := by
  have hFc := va_free0 hDc hS hC.2.2
  refine va_calli (va_runU (As := As) (rest := rest) hC.1 hM cw ⟨Pw_blind, hr, fw_pre hC hPc hDc hS⟩ rfl hn hsz hst (lv_room hW) hdg hf) hS (fun q _ h => hFc q h) hFc (fun r u t H1 locs1 ht hvm hq hB hz1 hk1 hS1 => ?_)
  obtain ⟨hP1, hD1⟩ := hB
  rw [ht] at hP1
  obtain ⟨hP2, hD2⟩ := J u H1 hP1 hD1 hz1 hk1 hFc
  exact kk r u H1 locs1 hP2 hD2 hS1 hq
theorem fw_cvU {post : S → Prop} (hC : Cx p m c cc nL s args Ts own D k A)
    (hM : Met l y wsy rmy (va_Pc (.ref b :: As) (Pw D k wc H.size)) (va_Qv post (fun u => Bw D wc H.size (wf u)) (va_A wc H.size)) mc ms (va_A wc H.size))
    (cw : va_CU R s args own C9 owner index x y bytes maxL ret wsy rmy mc ms n) (hr : ∃ cell : Cell, H[b]? = some cell ∧ cell.vm.isStatics = false ∧ s.vm.findClass C9 = some cell.cls)
    (hn : As.length = n) (hsz : ls.size = nL) (hst : st = As.reverse ++ .ref b :: rest) (hW : (rest.map fun v => v.category).sum ≤ 8) (hdg : decode cc pc = .ok (.invokevirtual index, 3)) (hf : cells + mc ≤ R.cells ∧ slots + ms ≤ R.slots)
    (hPc : va_P D vwCl wc H) (hDc : va_D A wc) (hS : va_S A s.heap H locs) (J : Jn D A wc H wf wN)
    (kk : ∀ (u : S) (H1 : Heap) (locs1 : List Loc), va_P D vwCl (wN u) H1 → va_D A (wN u) → va_S A s.heap H1 locs1 → post u → W p l e R s m args below meth c H1 locs1 (cells + mc) (slots + ms) Q (F0 m (pc + 3) ls rest)) :
    W p l e R s m args below meth c H locs cells slots Q (F0 m pc ls st) := by
  have hFc := va_free0 hDc hS hC.2.2
  refine va_callv (va_runU (As := As) (rest := rest) hC.1 hM cw ⟨Pw_blind, hr, fw_pre hC hPc hDc hS⟩ rfl hn hsz hst (lv_room hW) hdg hf) hS (fun q _ h => hFc q h) hFc (fun u t H1 locs1 ht hvm hq hB hz1 hk1 hS1 => ?_)
  obtain ⟨hP1, hD1⟩ := hB
  rw [ht] at hP1
  obtain ⟨hP2, hD2⟩ := J u H1 hP1 hD1 hz1 hk1 hFc
  exact kk u H1 locs1 hP2 hD2 hS1 hq
theorem fw_crU {post : Nat → S → Prop} (hC : Cx p m c cc nL s args Ts own D k A)
    (hM : Met l y wsy rmy (va_Pc (.ref b :: As) (Pw D k wc H.size)) (va_Qr (fun z : Nat × S => post z.1 z.2) (fun z a t => a = z.1 ∧ Bw D wc H.size (wf z.2) t) (va_A wc H.size)) mc ms (va_A wc H.size))
    (cw : va_CU R s args own C9 owner index x y bytes maxL ret wsy rmy mc ms n) (hr : ∃ cell : Cell, H[b]? = some cell ∧ cell.vm.isStatics = false ∧ s.vm.findClass C9 = some cell.cls)
    (hn : As.length = n) (hsz : ls.size = nL) (hst : st = As.reverse ++ .ref b :: rest) (hW : (rest.map fun v => v.category).sum ≤ 8) (hdg : decode cc pc = .ok (.invokevirtual index, 3)) (hf : cells + mc ≤ R.cells ∧ slots + ms ≤ R.slots)
    (hPc : va_P D vwCl wc H) (hDc : va_D A wc) (hS : va_S A s.heap H locs) (J : Jn D A wc H wf wN)
    (kk : ∀ (r : Nat) (u : S) (H1 : Heap) (locs1 : List Loc), va_P D vwCl (wN u) H1 → va_D A (wN u) → va_S A s.heap H1 locs1 → post r u → W p l e R s m args below meth c H1 locs1 (cells + mc) (slots + ms) Q (F0 m (pc + 3) ls (.ref r :: rest))) :
    W p l e R s m args below meth c H locs cells slots Q (F0 m pc ls st) := by
  have hFc := va_free0 hDc hS hC.2.2
  refine va_callr (va_runU (As := As) (rest := rest) hC.1 hM cw ⟨Pw_blind, hr, fw_pre hC hPc hDc hS⟩ rfl hn hsz hst (lv_room hW) hdg hf) hS (fun q _ h => hFc q h) hFc (fun z ra t H1 locs1 ht hvm hq hB hz1 hk1 hS1 => ?_)
  obtain ⟨rfl, hP1, hD1⟩ := hB
  rw [ht] at hP1
  obtain ⟨hP2, hD2⟩ := J z.2 H1 hP1 hD1 hz1 hk1 hFc
  exact kk z.1 z.2 H1 locs1 hP2 hD2 hS1 hq
theorem fw_crSU {post : Nat → S → Prop} (hC : Cx p m c cc nL s args Ts own D k A)
    (hM : Met l y wsy rmy (va_Pc (.ref b :: As) (Pw D k wc H.size)) (va_Qr (fun z : Nat × S => post z.1 z.2) (fun z a t => a = z.1 ∧ Bw D wc H.size (wf z.2) t) (va_A wc H.size)) mc ms (va_A wc H.size))
    (hat : ClassAt s C9 c9) (cw : va_CS R s args own index y bytes maxL ret wsy rmy mc ms n) (hr : ∃ cell : Cell, H[b]? = some cell ∧ cell.vm.isStatics = false ∧ s.vm.findClass C9 = some cell.cls)
    (hn : As.length = n) (hsz : ls.size = nL) (hst : st = As.reverse ++ .ref b :: rest) (hW : (rest.map fun v => v.category).sum ≤ 8) (hdg : decode cc pc = .ok (.invokespecial index, 3)) (hf : cells + mc ≤ R.cells ∧ slots + ms ≤ R.slots)
    (hPc : va_P D vwCl wc H) (hDc : va_D A wc) (hS : va_S A s.heap H locs) (J : Jn D A wc H wf wN)
    (kk : ∀ (r : Nat) (u : S) (H1 : Heap) (locs1 : List Loc), va_P D vwCl (wN u) H1 → va_D A (wN u) → va_S A s.heap H1 locs1 → post r u → W p l e R s m args below meth c H1 locs1 (cells + mc) (slots + ms) Q (F0 m (pc + 3) ls (.ref r :: rest))) :
    W p l e R s m args below meth c H locs cells slots Q (F0 m pc ls st) := by
  have hFc := va_free0 hDc hS hC.2.2
  refine va_callr (va_runSU (As := As) (rest := rest) hat hC.1 hM cw ⟨Pw_blind, hr, fw_pre hC hPc hDc hS⟩ rfl hn hsz hst (lv_room hW) hdg hf) hS (fun q _ h => hFc q h) hFc (fun z ra t H1 locs1 ht hvm hq hB hz1 hk1 hS1 => ?_)
  obtain ⟨rfl, hP1, hD1⟩ := hB
  rw [ht] at hP1
  obtain ⟨hP2, hD2⟩ := J z.2 H1 hP1 hD1 hz1 hk1 hFc
  exact kk z.1 z.2 H1 locs1 hP2 hD2 hS1 hq
theorem fw_ciSU {post : Int32 → S → Prop} (hC : Cx p m c cc nL s args Ts own D k A)
    (hM : Met l y wsy rmy (va_Pc (.ref b :: As) (Pw D k wc H.size)) (va_Qi post (fun u => Bw D wc H.size (wf u)) (va_A wc H.size)) mc ms (va_A wc H.size))
    (hat : ClassAt s C9 c9) (cw : va_CS R s args own index y bytes maxL ret wsy rmy mc ms n) (hr : ∃ cell : Cell, H[b]? = some cell ∧ cell.vm.isStatics = false ∧ s.vm.findClass C9 = some cell.cls)
    (hn : As.length = n) (hsz : ls.size = nL) (hst : st = As.reverse ++ .ref b :: rest) (hW : (rest.map fun v => v.category).sum ≤ 8) (hdg : decode cc pc = .ok (.invokespecial index, 3)) (hf : cells + mc ≤ R.cells ∧ slots + ms ≤ R.slots)
    (hPc : va_P D vwCl wc H) (hDc : va_D A wc) (hS : va_S A s.heap H locs) (J : Jn D A wc H wf wN)
    (kk : ∀ (r : Int32) (u : S) (H1 : Heap) (locs1 : List Loc), va_P D vwCl (wN u) H1 → va_D A (wN u) → va_S A s.heap H1 locs1 → post r u → W p l e R s m args below meth c H1 locs1 (cells + mc) (slots + ms) Q (F0 m (pc + 3) ls (.int r :: rest))) :
    W p l e R s m args below meth c H locs cells slots Q (F0 m pc ls st) := by
  have hFc := va_free0 hDc hS hC.2.2
  refine va_calli (va_runSU (As := As) (rest := rest) hat hC.1 hM cw ⟨Pw_blind, hr, fw_pre hC hPc hDc hS⟩ rfl hn hsz hst (lv_room hW) hdg hf) hS (fun q _ h => hFc q h) hFc (fun r u t H1 locs1 ht hvm hq hB hz1 hk1 hS1 => ?_)
  obtain ⟨hP1, hD1⟩ := hB
  rw [ht] at hP1
  obtain ⟨hP2, hD2⟩ := J u H1 hP1 hD1 hz1 hk1 hFc
  exact kk r u H1 locs1 hP2 hD2 hS1 hq
end FCU
theorem gA_U {a c : Cond} {own C owner : String} {idx : Nat} {x y : MethodName} (h1 : Cond.methodLink own idx x ∈ wALL) (h2 : Cond.sameMethod x.cls owner x.name x.desc ∈ wALL) (h3 : Cond.selects C x y ∈ wALL) (h4 : Cond.instanceMethod y ∈ wALL) (h5 : Cond.initialized y.cls ∈ wALL) (hc : c ∈ wALL) : GoodIn (a :: wALL) (va_wsU own idx C owner x y (c :: wALL)) := gA (by
  intro w hw
  rcases List.mem_append.mp hw with h | h
  · rcases List.mem_cons.mp h with rfl | h
    · exact h1
    · rcases List.mem_cons.mp h with rfl | h
      · exact h2
      · rcases List.mem_cons.mp h with rfl | h
        · exact h3
        · rcases List.mem_cons.mp h with rfl | h
          · exact h4
          · rcases List.mem_cons.mp h with rfl | h
            · exact h5
            · simp at h
  · exact gA_c hc w h)
theorem gA_O {a c : Cond} {own C owner : String} {idx : Nat} {x y : MethodName} (h1 : Cond.methodLink own idx x ∈ wALL) (h2 : Cond.sameMethod x.cls owner x.name x.desc ∈ wALL) (h3 : Cond.instanceMethod ⟨owner, x.name, x.desc⟩ ∈ wALL) (h4 : Cond.selects C x y ∈ wALL) (h5 : Cond.instanceMethod y ∈ wALL) (h6 : Cond.initialized y.cls ∈ wALL) (hc : c ∈ wALL) : GoodIn (a :: wALL) (va_wsO own idx C owner x y (c :: wALL)) := gA (by
  intro w hw
  rcases List.mem_append.mp hw with h | h
  · rcases List.mem_cons.mp h with rfl | h
    · exact h1
    · rcases List.mem_cons.mp h with rfl | h
      · exact h2
      · rcases List.mem_cons.mp h with rfl | h
        · exact h3
        · rcases List.mem_cons.mp h with rfl | h
          · exact h4
          · rcases List.mem_cons.mp h with rfl | h
            · exact h5
            · rcases List.mem_cons.mp h with rfl | h
              · exact h6
              · simp at h
  · exact gA_c hc w h)
theorem gA_SU {a c : Cond} {own : String} {idx : Nat} {y : MethodName} (h1 : Cond.methodLink own idx y ∈ wALL) (h2 : Cond.sameMethod y.cls y.cls y.name y.desc ∈ wALL) (h3 : Cond.superclass own y.cls ∈ wALL) (h4 : Cond.instanceMethod y ∈ wALL) (h5 : Cond.initialized y.cls ∈ wALL) (hc : c ∈ wALL) : GoodIn (a :: wALL) (va_wsSU own idx y (c :: wALL)) := gA (by
  intro w hw
  rcases List.mem_append.mp hw with h | h
  · rcases List.mem_cons.mp h with rfl | h
    · exact h1
    · rcases List.mem_cons.mp h with rfl | h
      · exact h2
      · rcases List.mem_cons.mp h with rfl | h
        · exact h3
        · rcases List.mem_cons.mp h with rfl | h
          · exact h4
          · rcases List.mem_cons.mp h with rfl | h
            · exact h5
            · simp at h
  · exact gA_c hc w h)
/-! A STRING BUILDER AND ITS BYTES; a string and its bytes -/
def WB (k ad : Nat → Nat) (n : Nat) (σ : Mem) : va_W := [(ad 0, .inr (1, [.ref (ad 1), .int (σ 0 1), .int (σ 0 2), .int (σ 0 3)])), (ad 1, .inl (k 4, n, .inl (σ 1)))]
def WBy (k ad : Nat → Nat) (n : Nat) (σ : Mem) : va_W := [(ad 0, .inl (k 4, n, .inl (σ 0)))]
