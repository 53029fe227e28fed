/-! NEW ARRAYS, whose class is the known one; parts of a world lent to a callee -/
theorem Jn.part {S : Type} {D : va_G} {A : Nat → Prop} {ws wc wr : va_W} {H : Heap} {wf : S → va_W} (hP : va_P D vwCl ws H) (hD : va_D A ws) (isC isR : List Nat) (hC : isC.map (fun i => ws[i]?) = wc.map some) (hR : isR.map (fun i => ws[i]?) = wr.map some) (hn : va_nd isR = true) (hdis : ∀ i ∈ isR, i ∉ isC) : Jn D A wc H wf (fun u => wr ++ wf u) :=
  fun _ _ hP1 hD1 _ hk hF => va_join hP hD isC isR hC hR hn hdis hk hF hP1 hD1
section NEWA
variable {p : Program} {l : Launch} {e : Env} {R : Room} {s : State} {m : MethodId} {args : Array Value} {below : List Frame} {meth : Method} {c : Code} {H : Heap} {locs : List Loc} {cells slots : Nat} {Q : State → Prop}
variable {cc : ByteArray} {pc nL : Nat} {ls : Array Slot} {rest : List Value} {D : va_G} {k : Nat → Nat} {A : Nat → Prop} {ws : va_W} {Ts : List Cond} {own : String}
theorem nw_int (hC : Cx p m c cc nL s args Ts own D k A) (harr : (Cond.arrayClass .int).before args s = true) (hP : va_P D vwCl ws H) (hD : va_D A ws) (hS : va_S A s.heap H locs) {n : Int32} {N' : Nat} (hn : ¬ n < 0) (hN : n.toNatClampNeg = N') (hb4 : N' * 4 ≤ 536870912) (hcells : cells + 1 ≤ R.cells) (hslots : slots + N' ≤ R.slots) (hdg : decode cc pc = .ok (.newarray .int, 2))
    (kk : ∀ (q : Nat) (H1 : Heap), va_P D vwCl (ws ++ [(q, .inl (k 0, N', .inl (fun _ => 0)))]) H1 → va_D A (ws ++ [(q, .inl (k 0, N', .inl (fun _ => 0)))]) → va_S A s.heap H1 locs → W p l e R s m args below meth c H1 locs (cells + 1) (slots + N') Q (F0 m (pc + 2) ls (.ref q :: rest))) : W p l e R s m args below meth c H locs cells slots Q (F0 m pc ls (.int n :: rest)) := by
  refine va_newa (atype := .int) (ty := .int) (a0 := (N', .inl (fun _ => 0))) hC.1.1 hC.1.2.1 harr rfl hC.2.1.1 hP hD hS hC.2.2 (fun _ => rfl) hn hN hb4 hcells hslots hdg (fun q cA H1 hK hP hD hS => ?_)
  have h1 := va_nm_int ((hK.2 5 (cA, .int) rfl).2)
  have h2 : cA = k 0 := Option.some.inj (h1.symm.trans hC.2.1.2.1.1)
  subst h2
  exact kk q H1 hP hD hS
theorem nw_bool (hC : Cx p m c cc nL s args Ts own D k A) (harr : (Cond.arrayClass .boolean).before args s = true) (hP : va_P D vwCl ws H) (hD : va_D A ws) (hS : va_S A s.heap H locs) {n : Int32} {N' : Nat} (hn : ¬ n < 0) (hN : n.toNatClampNeg = N') (hb4 : N' * 1 ≤ 536870912) (hcells : cells + 1 ≤ R.cells) (hslots : slots + N' ≤ R.slots) (hdg : decode cc pc = .ok (.newarray .boolean, 2))
    (kk : ∀ (q : Nat) (H1 : Heap), va_P D vwCl (ws ++ [(q, .inl (k 1, N', .inl (fun _ => 0)))]) H1 → va_D A (ws ++ [(q, .inl (k 1, N', .inl (fun _ => 0)))]) → va_S A s.heap H1 locs → W p l e R s m args below meth c H1 locs (cells + 1) (slots + N') Q (F0 m (pc + 2) ls (.ref q :: rest))) : W p l e R s m args below meth c H locs cells slots Q (F0 m pc ls (.int n :: rest)) := by
  refine va_newa (atype := .boolean) (ty := .boolean) (a0 := (N', .inl (fun _ => 0))) hC.1.1 hC.1.2.1 harr rfl hC.2.1.1 hP hD hS hC.2.2 (fun _ => rfl) hn hN hb4 hcells hslots hdg (fun q cA H1 hK hP hD hS => ?_)
  have h1 := va_nm_boolean ((hK.2 5 (cA, .boolean) rfl).2)
  have h2 : cA = k 1 := Option.some.inj (h1.symm.trans hC.2.1.2.1.2.1)
  subst h2
  exact kk q H1 hP hD hS
theorem nw_byte (hC : Cx p m c cc nL s args Ts own D k A) (harr : (Cond.arrayClass .byte).before args s = true) (hP : va_P D vwCl ws H) (hD : va_D A ws) (hS : va_S A s.heap H locs) {n : Int32} {N' : Nat} (hn : ¬ n < 0) (hN : n.toNatClampNeg = N') (hb4 : N' * 1 ≤ 536870912) (hcells : cells + 1 ≤ R.cells) (hslots : slots + N' ≤ R.slots) (hdg : decode cc pc = .ok (.newarray .byte, 2))
    (kk : ∀ (q : Nat) (H1 : Heap), va_P D vwCl (ws ++ [(q, .inl (k 4, N', .inl (fun _ => 0)))]) H1 → va_D A (ws ++ [(q, .inl (k 4, N', .inl (fun _ => 0)))]) → va_S A s.heap H1 locs → W p l e R s m args below meth c H1 locs (cells + 1) (slots + N') Q (F0 m (pc + 2) ls (.ref q :: rest))) : W p l e R s m args below meth c H locs cells slots Q (F0 m pc ls (.int n :: rest)) := by
  refine va_newa (atype := .byte) (ty := .byte) (a0 := (N', .inl (fun _ => 0))) hC.1.1 hC.1.2.1 harr rfl hC.2.1.1 hP hD hS hC.2.2 (fun _ => rfl) hn hN hb4 hcells hslots hdg (fun q cA H1 hK hP hD hS => ?_)
  have h1 := va_nm_byte ((hK.2 5 (cA, .byte) rfl).2)
  have h2 : cA = k 4 := Option.some.inj (h1.symm.trans hC.2.1.2.1.2.2.2.2)
  subst h2
  exact kk q H1 hP hD hS
end NEWA
theorem mx_fn {r s : Nat → Nat} {n : Nat} (h : ∀ i, i < n → r i = s i) : (fun i : Nat => if i < n then some (r i) else none) = (fun i => if i < n then some (s i) else none) := by
  funext i
  by_cases hi : i < n
  · rw [if_pos hi, if_pos hi, h i hi]
  · rw [if_neg hi, if_neg hi]
section NEWM
variable {p : Program} {l : Launch} {e : Env} {R : Room} {s : State} {m : MethodId} {args : Array Value} {below : List Frame} {meth : Method} {c : Code} {H : Heap} {locs : List Loc} {cells slots : Nat} {Q : State → Prop}
variable {cc : ByteArray} {pc nL : Nat} {ls : Array Slot} {rest : List Value} {D : va_G} {k : Nat → Nat} {A : Nat → Prop} {ws : va_W} {Ts : List Cond} {own : String}
/-- new int[N][K] -/
theorem nw_mat (hC : Cx p m c cc nL s args Ts own D k A) {index : Nat} (hcl : (Cond.classLink own index "[[I").before args s = true) (harr : (Cond.arrayClass .int).before args s = true) (hP : va_P D vwCl ws H) (hD : va_D A ws) (hS : va_S A s.heap H locs) {n z : Int32} {N' K' : Nat} (hn : ¬ n < 0) (hz : ¬ z < 0) (hN : n.toNatClampNeg = N') (hK' : z.toNatClampNeg = K') (hb1 : N' * 4 ≤ 536870912) (hb2 : K' * 4 ≤ 536870912) (hb3 : K' ≤ 536870912) (hcells : cells + (1 + N') ≤ R.cells) (hslots : slots + (N' + N' * K') ≤ R.slots) (hdg : decode cc pc = .ok (.multianewarray index 2, 4))
    (kk : ∀ (q : Nat) (r : Nat → Nat) (H1 : Heap), va_P D vwCl ((ws ++ [(q, .inl (k 2, N', .inr (.inr (.inr (.inr (fun i => if i < N' then some (r i) else none))))))]) ++ (List.range N').map (fun i => (r i, .inl (k 0, K', .inl (fun _ => 0))))) H1 → va_D A ((ws ++ [(q, .inl (k 2, N', .inr (.inr (.inr (.inr (fun i => if i < N' then some (r i) else none))))))]) ++ (List.range N').map (fun i => (r i, .inl (k 0, K', .inl (fun _ => 0))))) → va_S A s.heap H1 locs → W p l e R s m args below meth c H1 locs (cells + 1 + N') (slots + N' + N' * K') Q (F0 m (pc + 4) ls (.ref q :: rest))) : W p l e R s m args below meth c H locs cells slots Q (F0 m pc ls (.int z :: .int n :: rest)) := by
  have e0 : ws ++ va_pl [] (fun _ => .inr (0, [])) = ws := List.append_nil ws
  refine va_mna (ty := .int) (cy := k 0) (X := ws) (L := []) (f := fun _ => .inr (0, [])) (z := (K', .inl (fun _ => 0))) hC.1.1 hC.1.2.1 hC.1.2.2.2.1 hcl hC.2.1.2.2.2.2.2.2.2.2.2.2.2.2.2.2.2.2 harr hC.2.1.2.1.1 hC.2.1.1 (by rw [e0]; exact hP) (by rw [e0]; exact hD) hS hC.2.2 hn hz hN hK' hb1 hb2 hb3 rfl rfl hcells hslots (fun c => ?_) hdg (fun q r cA H1 _ _ hK hP hD hS => ?_)
  · exact arrV_new _ _ _
  · have h1 := (hK.2 5 (cA, .array .int) rfl).2
    have h2 : cA = k 2 := Option.some.inj ((show s.vm.findClass "[[I" = some cA from h1).symm.trans hC.2.1.2.1.2.2.1)
    subst h2
    have e1 : va_pl ([] ++ (List.range N').map r) (vr_up (fun _ => .inr (0, [])) ((List.range N').map r) (.inl (k 0, (K', .inl (fun _ => 0))))) = (List.range N').map (fun i => (r i, .inl (k 0, K', .inl (fun _ => 0)))) := by
      rw [← vr_rows (fun a _ h => by cases h)]
      show [] ++ List.map _ (List.map r _) = _
      rw [List.nil_append, List.map_map]
      rfl
    rw [e1] at hP hD
    exact kk q r H1 hP hD hS
end NEWM
theorem GG.dc {D : va_G} {k : Nat → Nat} {A : Nat → Prop} {U : State} {H : Heap} (h : GG D k A U H) : va_Z RJx4a65c "DEFAULTCAPACITY_EMPTY_ELEMENTDATA" "[Ljava/lang/Object;" (.ref (k 10)) A U H := h.2.2.2.2.2.2.1.1
