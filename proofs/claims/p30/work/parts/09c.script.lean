/-! BESIDE THE SCRIPT -/
def Px (b L : Nat) (xs : Nat → Int32) (D : va_G) (k : Nat → Nat) (ws : va_W) (sz : Nat) : State → Prop := fun U => Pw D k ws sz U ∧ va_X b L xs U U.heap ∧ b < sz ∧ ¬ va_A ws sz b
theorem Px_blind {b L : Nat} {xs : Nat → Int32} {D : va_G} {k : Nat → Nat} {ws : va_W} {sz : Nat} {av : List Value} : FrameBlind (va_Pc av (Px b L xs D k ws sz)) := fun a U g mk q => by
  obtain ⟨q0, ⟨q1, qP, qD, qG⟩, qX, q2, q3⟩ := q
  exact ⟨q0, ⟨q1, qP, qD, GG_same qG⟩, va_X.moved (U := U.calling g mk a) (show U.vm.Alike (U.calling g mk a).vm from (State.WarmedH.refl U).alike) qX, q2, q3⟩
section FXS
variable {S : Type} {l : Launch} {y : MethodName} {wsy wsy' : List Cond} {cc : ByteArray} {maxL : Nat} {rm : Room} {mc ms : Nat} {D : va_G} {k : Nat → Nat} {W0 : va_W} {wf : S → va_W} {av : List Value} {sz b L : Nat} {xs : Nat → Int32}
theorem fw_iP {ty : FieldType} {post : Int32 → S → Prop} (hy : plainName y.cls = true) (hw : wsy = Cond.code y cc maxL (some ty) :: wsy') (hlen : (lg_sl av).length ≤ maxL)
    (body : ∀ (p : Program) (e : Env) (s : State) (m : MethodId) (args : Array Value) (below : List Frame) (meth : Method) (c : Code) (A : Nat → Prop) (Q : State → Prop) (ls : Array Slot),
      Cx p m c cc maxL s args wsy y.cls D k A → va_P D vwCl W0 s.heap → va_D A W0 → lv_has ls maxL (lv_args 0 av) → va_X b L xs s s.heap → b < s.heap.size → ¬ A b →
      (∀ (r : Int32) (u : S) (H : Heap) (locs : List Loc) (cells slots pc : Nat) (ls' : Array Slot), decode cc pc = .ok (.ireturn, 1) → narrow ty (.int r) = .int r → va_P D vwCl (wf u) H → va_D A (wf u) → va_S A s.heap H locs → cells ≤ mc → slots ≤ ms → post r u → W p l e rm s m args below meth c H locs cells slots Q (F0 m pc ls' [.int r])) →
      W p l e rm s m args below meth c s.heap [] 0 0 Q (F0 m 0 ls [])) :
    Met l y wsy rm (va_Pc av (Px b L xs D k W0 sz)) (va_Qi post (fun u => Bw D W0 sz (wf u)) (va_A W0 sz)) mc ms (va_A W0 sz) := by
  refine Met.ofW (cc := cc) (maxL := maxL) (ret := some ty) hy hw ?_
  intro p e s m args below meth c s₁ B hml hv
  obtain ⟨rfl, ⟨hsz, hP, hD0, hG⟩, hX, hbl, hbA⟩ := hv
  subst hsz
  have hown9 : s.vm.findClass y.cls = some m.cls := findClass_of_methodNamed B.named
  have hlocks := B.notSynchronized
  have hl := lv_entry av hlen
  rw [lg_entry_eq]
  generalize (lg_sl av ++ List.replicate (maxL - (lg_sl av).length) Slot.unset).toArray = ls at hl ⊢
  refine body p e s m _ below meth c (va_A W0 s.heap.size) _ ls ⟨⟨B.exec, B.bytes, hml, hown9, atoms_spec (ws := wsy) B.pre⟩, hG, fun q h => Or.inr h⟩ hP hD0.self hl hX hbl hbA ?_
  intro r u H locs cells slots pc ls' hdg hn hP hD hS hc hs hq
  refine W.widen hc hs ?_
  exact W.zret B.exec B.bytes B.returns hn (fun t ht hW => ⟨⟨r, u, rfl, hq, by rw [ht]; exact hP, hD⟩, hS.F ht⟩) hS.2.2 hdg
theorem fw_rP {rt : FieldType} {post : Nat → S → Prop} (hrt : (∃ n, rt = .object n) ∨ ∃ t, rt = .array t) (hy : plainName y.cls = true) (hw : wsy = Cond.code y cc maxL (some rt) :: wsy') (hlen : (lg_sl av).length ≤ maxL)
    (body : ∀ (p : Program) (e : Env) (s : State) (m : MethodId) (args : Array Value) (below : List Frame) (meth : Method) (c : Code) (A : Nat → Prop) (Q : State → Prop) (ls : Array Slot),
      Cx p m c cc maxL s args wsy y.cls D k A → va_P D vwCl W0 s.heap → va_D A W0 → lv_has ls maxL (lv_args 0 av) → va_X b L xs s s.heap → b < s.heap.size → ¬ A b →
      (∀ (r : Nat) (u : S) (H : Heap) (locs : List Loc) (cells slots pc : Nat) (ls' : Array Slot), decode cc pc = .ok (.areturn, 1) → va_P D vwCl (wf u) H → va_D A (wf u) → va_S A s.heap H locs → cells ≤ mc → slots ≤ ms → post r u → W p l e rm s m args below meth c H locs cells slots Q (F0 m pc ls' [.ref r])) →
      W p l e rm s m args below meth c s.heap [] 0 0 Q (F0 m 0 ls [])) :
    Met l y wsy rm (va_Pc av (Px b L xs D k W0 sz)) (va_Qr (fun z : Nat × S => post z.1 z.2) (fun z a t => a = z.1 ∧ Bw D W0 sz (wf z.2) t) (va_A W0 sz)) mc ms (va_A W0 sz) := by
  refine Met.ofW (cc := cc) (maxL := maxL) (ret := some rt) hy hw ?_
  intro p e s m args below meth c s₁ B hml hv
  obtain ⟨rfl, ⟨hsz, hP, hD0, hG⟩, hX, hbl, hbA⟩ := hv
  subst hsz
  have hown9 : s.vm.findClass y.cls = some m.cls := findClass_of_methodNamed B.named
  have hlocks := B.notSynchronized
  have hl := lv_entry av hlen
  rw [lg_entry_eq]
  generalize (lg_sl av ++ List.replicate (maxL - (lg_sl av).length) Slot.unset).toArray = ls at hl ⊢
  refine body p e s m _ below meth c (va_A W0 s.heap.size) _ ls ⟨⟨B.exec, B.bytes, hml, hown9, atoms_spec (ws := wsy) B.pre⟩, hG, fun q h => Or.inr h⟩ hP hD0.self hl hX hbl hbA ?_
  intro r u H locs cells slots pc ls' hdg hP hD hS hc hs hq
  refine W.widen hc hs ?_
  exact W.aret B.exec B.bytes B.returns hrt (Or.inr ⟨r, rfl⟩) (fun t ht hW => ⟨⟨(r, u), r, rfl, hq, rfl, by rw [ht]; exact hP, hD⟩, hS.F ht⟩) hS.2.2 hdg
end FXS
section FCP
variable {p : Program} {l : Launch} {e : Env} {R : Room} {s : State} {m : MethodId} {args : Array Value} {below : List Frame} {meth : Method} {c : Code} {H : Heap} {locs : List Loc} {cells slots : Nat} {Q : State → Prop}
variable {S : Type} {y : MethodName} {wsy Ts : List Cond} {rmy : Room} {bytes cc : ByteArray} {maxL nL mc ms n index pc : Nat} {ret : Option FieldType} {own : String} {b L : Nat} {xs : Nat → Int32} {As rest st : List Value} {wc : va_W} {wf wN : S → va_W} {D : va_G} {k : Nat → Nat} {A : Nat → Prop} {ls : Array Slot}
theorem fw_preX (hC : Cx p m c cc nL s args Ts own D k A) (hPc : va_P D vwCl wc H) (hDc : va_D A wc) (hS : va_S A s.heap H locs) (hX : va_X b L xs s s.heap) (hbl : b < s.heap.size) (hbA : ¬ A b) {av : List Value} : ∀ U : State, U.heap = H → s.WarmedH U.vm → va_Pc av (Px b L xs D k wc H.size) av.toArray U := fun U hU hW =>
  ⟨rfl, (fw_pre (av := av) hC hPc hDc hS U hU hW).2, (hX.kept (H1 := U.heap) (by rw [hU]; exact hS.2.1 b hbl hbA)).moved hW.alike, Nat.lt_of_lt_of_le hbl hS.1, fun h => hbA (va_free0 hDc hS hC.2.2 b h)⟩
theorem fw_ciSP {post : Int32 → S → Prop} (hC : Cx p m c cc nL s args Ts own D k A)
    (hM : Met l y wsy rmy (va_Pc As (Px b L xs D k wc H.size)) (va_Qi post (fun u => Bw D wc H.size (wf u)) (va_A wc H.size)) mc ms (va_A wc H.size))
    (cw : CallB R s args own index y bytes maxL ret wsy rmy mc ms n ∧ (Cond.static y).before args s = true)
    (hn : As.length = n) (hsz : ls.size = nL) (hst : st = As.reverse ++ rest) (hW : (rest.map fun v => v.category).sum ≤ 8) (hdg : decode cc pc = .ok (.invokestatic index, 3)) (hf : cells + mc ≤ R.cells ∧ slots + ms ≤ R.slots)
    (hPc : va_P D vwCl wc H) (hDc : va_D A wc) (hS : va_S A s.heap H locs) (hX : va_X b L xs s s.heap) (hbl : b < s.heap.size) (hbA : ¬ A b) (J : Jn D A wc H wf wN)
    (kk : ∀ (r : Int32) (u : S) (H1 : Heap) (locs1 : List Loc), va_P D vwCl (wN u) H1 → va_D A (wN u) → va_S A s.heap H1 locs1 → post r u → W p l e R s m args below meth c H1 locs1 (cells + mc) (slots + ms) Q (F0 m (pc + 3) ls (.int r :: rest))) :
    W p l e R s m args below meth c H locs cells slots Q (F0 m pc ls st) := by
  have hFc := va_free0 hDc hS hC.2.2
  refine va_calli (va_runS (As := As) (rest := rest) hC.1 hM cw ⟨Px_blind, fw_preX hC hPc hDc hS hX hbl hbA⟩ rfl hn hsz hst (lv_room hW) hdg hf) hS (fun q _ h => hFc q h) hFc (fun r u t H1 locs1 ht hvm hq hB hz1 hk1 hS1 => ?_)
  obtain ⟨hP1, hD1⟩ := hB
  rw [ht] at hP1
  obtain ⟨hP2, hD2⟩ := J u H1 hP1 hD1 hz1 hk1 hFc
  exact kk r u H1 locs1 hP2 hD2 hS1 hq
theorem fw_crSP {post : Nat → S → Prop} (hC : Cx p m c cc nL s args Ts own D k A)
    (hM : Met l y wsy rmy (va_Pc As (Px b L xs D k wc H.size)) (va_Qr (fun z : Nat × S => post z.1 z.2) (fun z a t => a = z.1 ∧ Bw D wc H.size (wf z.2) t) (va_A wc H.size)) mc ms (va_A wc H.size))
    (cw : CallB R s args own index y bytes maxL ret wsy rmy mc ms n ∧ (Cond.static y).before args s = true)
    (hn : As.length = n) (hsz : ls.size = nL) (hst : st = As.reverse ++ rest) (hW : (rest.map fun v => v.category).sum ≤ 8) (hdg : decode cc pc = .ok (.invokestatic index, 3)) (hf : cells + mc ≤ R.cells ∧ slots + ms ≤ R.slots)
    (hPc : va_P D vwCl wc H) (hDc : va_D A wc) (hS : va_S A s.heap H locs) (hX : va_X b L xs s s.heap) (hbl : b < s.heap.size) (hbA : ¬ A b) (J : Jn D A wc H wf wN)
    (kk : ∀ (r : Nat) (u : S) (H1 : Heap) (locs1 : List Loc), va_P D vwCl (wN u) H1 → va_D A (wN u) → va_S A s.heap H1 locs1 → post r u → W p l e R s m args below meth c H1 locs1 (cells + mc) (slots + ms) Q (F0 m (pc + 3) ls (.ref r :: rest))) :
    W p l e R s m args below meth c H locs cells slots Q (F0 m pc ls st) := by
  have hFc := va_free0 hDc hS hC.2.2
  refine va_callr (va_runS (As := As) (rest := rest) hC.1 hM cw ⟨Px_blind, fw_preX hC hPc hDc hS hX hbl hbA⟩ rfl hn hsz hst (lv_room hW) hdg hf) hS (fun q _ h => hFc q h) hFc (fun z ra t H1 locs1 ht hvm hq hB hz1 hk1 hS1 => ?_)
  obtain ⟨rfl, hP1, hD1⟩ := hB
  rw [ht] at hP1
  obtain ⟨hP2, hD2⟩ := J z.2 H1 hP1 hD1 hz1 hk1 hFc
  exact kk z.1 z.2 H1 locs1 hP2 hD2 hS1 hq
end FCP
/-! A CELL OF THE SCRIPT -/
def cellv (L : Nat) (xs : Nat → Int32) (v : Int32) : Int32 := if v < nI L then xs v.toNatClampNeg else 790386105 * (v + 3)
theorem vin_of {v : Int32} {L : Nat} (hL : L ≤ 260) (h0 : ¬ v < 0) (h : ¬ nI L ≤ v) : vp_in v L := by
  rcases pk_ix v (show L < 2 ^ 31 by omega) with q | q | ⟨j, hj, rfl⟩
  · exact absurd q h0
  · exact absurd q h
  · exact vp_in_nI hj (by omega)
abbrev rm_L_cell : Room := { frames := 0, cells := 0, slots := 0, locals := 0 }
abbrev wq_L_cell : List Cond := Cond.code yL_cell cL_cell 2 (some .int) :: wLAW
set_option maxHeartbeats 4000000 in
set_option maxRecDepth 100000 in
theorem c_L_cell (l : Launch) (D : va_G) (k : Nat → Nat) {b L : Nat} {xs : Nat → Int32} (hL : L ≤ 260) {sz : Nat} {v : Int32} (h0 : ¬ v < 0) : Met l yL_cell wq_L_cell rm_L_cell (va_Pc [.ref b, .int v] (Px b L xs D k [] sz)) (va_Qi (fun (r : Int32) (_ : Mem) => r = cellv L xs v) (fun _ => Bw D [] sz []) (va_A [] sz)) 0 0 (va_A [] sz) := by
  refine fw_iP (wf := fun _ : Mem => []) (by decide) rfl (Nat.le_of_ble_eq_true rfl) ?_
  intro p e s m args below meth c A Q ls hC hP hD hl hX hbl hbA hret
  obtain ⟨⟨hx, hb, hml, hown, hts⟩, hG, hA⟩ := id hC
  have hS : va_S A s.heap s.heap [] := va_S.rf
  have hl : lv_has ls 2 [(0, .ref b), (1, .int v)] := hl
  have hown : s.vm.findClass RL = some m.cls := hown
  have B18 : ∀ (r : Int32) (ls : Array Slot), r = cellv L xs v → W p l e rm_L_cell s m args below meth c s.heap [] 0 0 Q (F0 m 18 ls [.int r]) := fun r ls h => hret r (fun _ _ => 0) s.heap [] 0 0 18 ls dL_cell_18 rfl hP hD hS (Nat.le_refl 0) (Nat.le_refl 0) h
  refine lv_iload_n hx hb dL_cell_0 rfl (lv_at hl 1 rfl) ?_
  refine lv_aload_n hx hb dL_cell_1 rfl (lv_at hl 0 rfl) ?_
  refine va_slen hx hb hX hbl hbA hS dL_cell_2 ?_
  refine lv_icmp_ge (tgt := 12) hx hb dL_cell_3 (by decide) (fun c9 => ?_) (fun c9 => ?_)
  · refine lv_ldc (v := 790386105) hx hb hown (hts _ (List.mem_cons_of_mem _ B_3)) dL_cell_12 ?_
    refine lv_iload_n hx hb dL_cell_14 rfl (lv_at hl 1 rfl) ?_
    refine lv_iconst (v := 3) hx hb dL_cell_15 (by decide) ?_
    refine lv_iadd hx hb dL_cell_16 ?_
    refine lv_imul hx hb dL_cell_17 ?_
    exact B18 _ _ (if_neg (Int32.not_lt.mpr c9)).symm
  · refine lv_aload_n hx hb dL_cell_6 rfl (lv_at hl 0 rfl) ?_
    refine lv_iload_n hx hb dL_cell_7 rfl (lv_at hl 1 rfl) ?_
    refine va_sld hx hb hX hbl hbA hS (vin_of hL h0 c9) dL_cell_8 ?_
    refine lv_goto (tgt := 18) hx hb dL_cell_9 (by decide) ?_
    exact B18 _ _ (if_pos (Int32.not_le.mp c9)).symm
/-! THE LAW'S OWN TABLE of what commits were -/
def KP (k kd : Nat → Nat) (κ : Mem) : va_W := [(kd 0, .inl (k 2, 12, .inr (.inr (.inr (.inr (fun j => if j < 12 then some (kd (j + 1)) else none)))))), (kd 1, .inl (k 0, 5, .inl (κ 0))), (kd 2, .inl (k 0, 5, .inl (κ 1))), (kd 3, .inl (k 0, 5, .inl (κ 2))), (kd 4, .inl (k 0, 5, .inl (κ 3))), (kd 5, .inl (k 0, 5, .inl (κ 4))), (kd 6, .inl (k 0, 5, .inl (κ 5))), (kd 7, .inl (k 0, 5, .inl (κ 6))), (kd 8, .inl (k 0, 5, .inl (κ 7))), (kd 9, .inl (k 0, 5, .inl (κ 8))), (kd 10, .inl (k 0, 5, .inl (κ 9))), (kd 11, .inl (k 0, 5, .inl (κ 10))), (kd 12, .inl (k 0, 5, .inl (κ 11)))]
theorem KP_get (k ad : Nat → Nat) (σ : Mem) (kd : Nat → Nat) (κ : Mem) {j : Nat} (h : j < 12) : (W5 k ad σ ++ KP k kd κ)[46 + j]? = some (kd (j + 1), .inl (k 0, 5, .inl (κ j))) := by
  rcases (show j = 0 ∨ j = 1 ∨ j = 2 ∨ j = 3 ∨ j = 4 ∨ j = 5 ∨ j = 6 ∨ j = 7 ∨ j = 8 ∨ j = 9 ∨ j = 10 ∨ j = 11 by omega) with rfl | rfl | rfl | rfl | rfl | rfl | rfl | rfl | rfl | rfl | rfl | rfl <;> rfl
theorem KP_set (k ad : Nat → Nat) (σ : Mem) (kd : Nat → Nat) (κ : Mem) {j : Nat} (h : j < 12) (f : Nat → Int32) : (W5 k ad σ ++ KP k kd κ).set (46 + j) (kd (j + 1), .inl (k 0, 5, .inl f)) = W5 k ad σ ++ KP k kd (mup κ j f) := by
  rcases (show j = 0 ∨ j = 1 ∨ j = 2 ∨ j = 3 ∨ j = 4 ∨ j = 5 ∨ j = 6 ∨ j = 7 ∨ j = 8 ∨ j = 9 ∨ j = 10 ∨ j = 11 by omega) with rfl | rfl | rfl | rfl | rfl | rfl | rfl | rfl | rfl | rfl | rfl | rfl <;> rfl
def kdI (q : Nat) (r : Nat → Nat) : Nat → Nat
  | 0 => q
  | j + 1 => r j
theorem KP_start {X : va_W} {k : Nat → Nat} {q : Nat} {r : Nat → Nat} : (X ++ [(q, .inl (k 2, 12, .inr (.inr (.inr (.inr (fun i => if i < 12 then some (r i) else none))))))]) ++ (List.range 12).map (fun i => (r i, .inl (k 0, 5, .inl (fun _ => 0)))) = X ++ KP k (kdI q r) (fun _ _ => 0) := by
  rw [List.append_assoc]
  rfl
theorem gB_0 {a c : Cond} (hc : c ∈ wLAW) : GoodIn (a :: wLAW) (c :: wALL) := gB (fun w hw => (List.mem_cons.mp hw).elim (fun e => e ▸ hc) (iB_A w))
