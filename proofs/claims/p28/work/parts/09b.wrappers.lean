/-! THE LAW'S WRAPPERS: one call, its exceptions caught -/
abbrev eIA : String := "java/lang/IllegalArgumentException"
abbrev eIS : String := "java/lang/IllegalStateException"
abbrev eIO : String := "java/lang/IndexOutOfBoundsException"
/-- who is not who -/
def NC (U : State) : Prop := va_Nc eIS eIA U ∧ va_Nc eIA eIO U ∧ va_Nc eIS eIO U
def WO (o : Nat) (n : Int64) (v : Value) : va_W := [(o, .inr (10, [.long n, v]))]
def PwL (D : va_G) (k : Nat → Nat) (ws : va_W) (sz : Nat) : State → Prop := fun U => Pw D k ws sz U ∧ NC U
theorem NC.moved {u U : State} (hvm : u.vm.Alike U.vm) (h : NC u) : NC U := ⟨h.1.moved hvm, h.2.1.moved hvm, h.2.2.moved hvm⟩
theorem PwL_blind {D : va_G} {k : Nat → Nat} {ws : va_W} {sz : Nat} {av : List Value} : FrameBlind (va_Pc av (PwL D k ws sz)) := fun a U g mk q => by
  obtain ⟨q0, ⟨q1, qP, qD, qG⟩, qN⟩ := q
  exact ⟨q0, ⟨q1, qP, qD, GG_same qG⟩, qN⟩
def tbE (q : Nat × Nat × Nat × Nat) : ExceptionTableEntry := ⟨q.1, q.2.1, q.2.2.1, q.2.2.2⟩
theorem tb_of {T : List ExceptionTableEntry} {hh : List (Nat × Nat × Nat × Nat)} (h : T.map (fun h => (h.startPc, h.endPc, h.handlerPc, h.catchType)) = hh) : T = hh.map tbE := by
  rw [← h, List.map_map]
  exact (List.map_id'' (fun _ => rfl) T).symm
section FL
variable {S : Type} {l : Launch} {y : MethodName} {wsy wsy' : List Cond} {cc : ByteArray} {maxL : Nat} {rm : Room} {mc ms : Nat} {D : va_G} {k : Nat → Nat} {W0 : va_W} {wf : S → va_W} {av : List Value} {sz : Nat} {hh : List (Nat × Nat × Nat × Nat)}
theorem fw_L {post : Int32 → S → Prop} (hy : plainName y.cls = true) (hw : wsy = Cond.codeWith y cc maxL (some .int) hh :: wsy') (hlen : (lg_sl av).length ≤ maxL)
    (body : ∀ (p : Program) (e : Env) (s : State) (m : MethodId) (args : Array Value) (below : List Frame) (meth : Method) (c : Code) (A : Nat → Prop) (Q : State → Prop) (ls : Array Slot),
      Cx p m c cc maxL s args wsy y.cls D k A → NC s → c.exceptionTable.toList = hh.map tbE → va_P D vwCl W0 s.heap → va_D A W0 → lv_has ls maxL (lv_args 0 av) →
      (∀ (r : Int32) (u : S) (H : Heap) (locs : List Loc) (cells slots pc : Nat) (ls' : Array Slot), decode cc pc = .ok (.ireturn, 1) → va_P D vwCl (wf u) H → va_D A (wf u) → va_S A s.heap H locs → cells ≤ mc → slots ≤ ms → post r u → W p l e rm s m args below meth c H locs cells slots Q (F0 m pc ls' [.int r])) →
      W p l e rm s m args below meth c s.heap [] 0 0 Q (F0 m 0 ls [])) :
    Met l y wsy rm (va_Pc av (PwL D k W0 sz)) (va_Qi post (fun u => Bw D W0 sz (wf u)) (va_A W0 sz)) mc ms (va_A W0 sz) := by
  refine vx_toMet (px := fun _ : Unit => False) (BX := fun _ _ _ => True) (AX := fun _ => True) (vx_ofWH (cc := cc) (maxL := maxL) (ret := some .int) (hh := hh) hy hw ?_) (fun _ h => h)
  intro p e s m args below meth c s₁ B hml hv
  obtain ⟨rfl, ⟨hsz, hP, hD0, hG⟩, hN⟩ := hv
  subst hsz
  have hown9 : s.vm.findClass y.cls = some m.cls := findClass_of_methodNamed B.named
  have htb : c.exceptionTable.toList = hh.map tbE := by
    obtain ⟨m9, meth9, c9, hn9, h1, h2, h3, h4, h7, h5, h6, -⟩ := Cond.codeWith_spec (atoms_spec (ws := wsy) B.pre _ (by rw [hw]; exact List.mem_cons_self))
    cases Option.some.inj (B.named.symm.trans hn9)
    cases Option.some.inj (h1.symm.trans B.method)
    cases Option.some.inj (h2.symm.trans (Stand.of_body B).code)
    exact tb_of h7
  have hlocks := B.notSynchronized
  have hl := lv_entry av hlen
  rw [lg_entry_eq]
  generalize (lg_sl av ++ List.replicate (maxL - (lg_sl av).length) Slot.unset).toArray = ls at hl ⊢
  refine body p e s m _ below meth c (va_A W0 s.heap.size) _ ls ⟨⟨B.exec, B.bytes, hml, hown9, atoms_spec (ws := wsy) B.pre⟩, hG, fun q h => Or.inr h⟩ hN htb hP hD0.self hl ?_
  intro r u H locs cells slots pc ls' hdg hP hD hS hc hs hq
  refine vx_ret (W.widen hc hs ?_)
  exact W.zret B.exec B.bytes B.returns rfl (fun t ht hW => ⟨⟨r, u, rfl, hq, by rw [ht]; exact hP, hD⟩, hS.F ht⟩) hS.2.2 hdg
end FL
section VXR
variable {p : Program} {l : Launch} {e : Env} {R : Room} {s : State} {m : MethodId} {args : Array Value} {below : List Frame} {meth : Method} {c : Code} {H : Heap} {locs : List Loc} {cells slots : Nat} {Q : State → Prop}
variable {pc : Nat} {ls : Array Slot} {rest st0 : List Value} {a : Array Value} {A0 A1 : Nat → Prop} {H0 : Heap} {mc ms : Nat} {free : Addr → Prop}
/-- a call that answers a cell, or throws -/
theorem vx_callr {S SX : Type} {post : S → Prop} {px : SX → Prop} {B : S → Nat → State → Prop} {BX : String → SX → State → Prop} {AX : Nat → Prop} (hr : vx_Run p l e R s m args below meth c H locs cells slots mc ms (F0 m pc ls st0) rest (va_Qr post B A1 a) (vx_X px BX AX) free) (hS : va_S A0 H0 H locs) (hA : ∀ q, q < H.size → A1 q → A0 q) (hf : ∀ q, free q → A0 q) (hAX : ∀ q, q < H.size → AX q → A0 q)
    (kx : ∀ (E : String) (ce : Cell) (q9 : Addr) (u : SX) (t : State) (H1 : Heap) (locs1 : List Loc), t.heap = H1 → s.vm.Alike t.vm → px u → BX E u t → H.size ≤ H1.size → (∀ q : Nat, q < H.size → ¬ AX q → H1[q]? = H[q]?) → va_S A0 H0 H1 locs1 → H1[q9]? = some ce → ce.vm = .none → s.vm.findClass E = some ce.cls → vx_W p l e R s m args below meth c H1 locs1 (cells + mc) (slots + ms) Q (F0 m pc ls rest) q9)
    (kk : ∀ (u : S) (ra : Nat) (t : State) (H1 : Heap) (locs1 : List Loc), t.heap = H1 → s.vm.Alike t.vm → post u → B u ra t → H.size ≤ H1.size → (∀ q : Nat, q < H.size → ¬ A1 q → H1[q]? = H[q]?) → va_S A0 H0 H1 locs1 → W p l e R s m args below meth c H1 locs1 (cells + mc) (slots + ms) Q (F0 m (pc + 3) ls (.ref ra :: rest))) : W p l e R s m args below meth c H locs cells slots Q (F0 m pc ls st0) := by
  intro T hT X
  rcases hr T hT X with ⟨v, st₀, t, T', L, h0, X', hL, e1, e2, ⟨⟨u, ra, hv, hp, hb⟩, hF⟩, st⟩ | ⟨q, st₀, t, T', L, E, ce, h0, X', hL, e1, e2, ⟨u, hp, hb, hF⟩, hce, hcv, hcl, st⟩
  · cases hv
    obtain ⟨k1, k2, k3⟩ := vx_keep h0 e1 hS hA hf hL hF
    obtain ⟨t2, a1, b1⟩ := kk u ra t T'.heap (locs ++ L) e1.symm (by rw [← e2]; exact X'.warmed.alike) hp hb k1 k2 k3 T' rfl X'
    exact ⟨t2, st t2 a1, b1⟩
  · obtain ⟨k1, k2, k3⟩ := vx_keep h0 e1 hS hAX hf hL hF
    obtain ⟨t2, a1, b1⟩ := kx E ce q u t T'.heap (locs ++ L) e1.symm (by rw [← e2]; exact X'.warmed.alike) hp hb k1 k2 k3 (by rw [e1]; exact hce) hcv hcl T' rfl X'
    exact ⟨t2, st.trans a1, b1⟩
end VXR
def q_L_field (post : Int32 → Mem → Int64 → Value → Prop) (p1 : Int32) (n : Int64) (v : Value) (σ : Mem) : Prop := q_X5_field (fun (r : Int32) (σ' : Mem) => post 0 σ' r.toInt64 v) (fun (E : String) (σ' : Mem) => (E = eIA ∧ post 1 σ' n v) ∨ (E = eIS ∧ post 2 σ' n v)) p1 σ
abbrev rm_L_field : Room := { frames := 20, cells := 1, slots := 6, locals := 959 }
abbrev wq_L_field : List Cond := Cond.codeWith yL_field cL_field 4 (some .int) [(0, 10, 13, 19), (0, 10, 16, 21)] :: wLAW
set_option maxHeartbeats 4000000 in
set_option maxRecDepth 100000 in
theorem c_L_field (l : Launch) (hflag : l.stackTraces = false) (D : va_G) (k ad : Nat → Nat) (o : Nat) {sz : Nat} {σ : Mem} {n : Int64} {v : Value} {p1 : Int32} {post : Int32 → Mem → Int64 → Value → Prop} (hp : q_L_field post p1 n v σ) : Met l yL_field wq_L_field rm_L_field (va_Pc [.ref (ad 0), .int p1, .ref o] (PwL D k (W5 k ad σ ++ WO o n v) sz)) (va_Qi (fun r (u : Mem × Int64 × Value) => post r u.1 u.2.1 u.2.2) (fun u => Bw D (W5 k ad σ ++ WO o n v) sz (W5 k ad u.1 ++ WO o u.2.1 u.2.2)) (va_A (W5 k ad σ ++ WO o n v) sz)) 1 6 (va_A (W5 k ad σ ++ WO o n v) sz) := by
  refine fw_L (S := Mem × Int64 × Value) (wf := fun u : Mem × Int64 × Value => W5 k ad u.1 ++ WO o u.2.1 u.2.2) (post := fun r u => post r u.1 u.2.1 u.2.2) (by decide) rfl (Nat.le_of_ble_eq_true rfl) ?_
  intro p e s m args below meth c A Q ls hC hN htb hP hD hl hret
  obtain ⟨⟨hx, hb, hml, hown, hts⟩, hG, hA⟩ := id hC
  have hK := hG.1
  have hS : va_S A s.heap s.heap [] := va_S.rf
  have hl : lv_has ls 4 [(0, .ref (ad 0)), (1, .int p1), (2, .ref o)] := hl
  have hown : s.vm.findClass RL = some m.cls := hown
  have hin_X6 : ∀ w ∈ u_ws RX6 TX6 2, w ∈ wq_L_field := fun w h => List.mem_cons_of_mem _ (iUB_X6 w h)
  unfold q_L_field at hp
  refine lv_aload_n hx hb dL_field_0 rfl (lv_at hl 2 rfl) ?_
  refine lv_aload_n hx hb dL_field_1 rfl (lv_at hl 0 rfl) ?_
  refine lv_iload_n hx hb dL_field_2 rfl (lv_at hl 1 rfl) ?_
  have hFc := va_free0 (D_left hD) hS hA
  refine vx_calli (vx_runV (g := F0 m 3 ls ([.int p1, .ref (ad 0), .ref o])) (As := [.int p1]) (rest := [.ref o]) hC.1 (c_X5_field l hflag D k ad hp) (cwV 1 hts (gB_V B_2 B_3 B_4 (iB_A _ A_25) (iB_A _ A_211)) rfl rfl rfl (by decide +kernel) ⟨Nat.le_of_ble_eq_true rfl, Nat.le_of_ble_eq_true rfl⟩) ⟨Pw_blind, va_recv hK hP (ci := 9) (q0 := 0) rfl rfl, fw_pre hC (P_left hP) (D_left hD) hS⟩ rfl rfl hl.1 rfl (lv_room (Nat.le_of_ble_eq_true rfl)) dL_field_3 ⟨Nat.le_of_ble_eq_true rfl, Nat.le_of_ble_eq_true rfl⟩) hS (fun q _ h => hFc q h) hFc (fun q _ h => hFc q h) ?_ ?_
  · intro E ce q9 u t H1 locs1 ht hvm hpx hB hz hk hS1 hcell hcv hcl
    obtain ⟨E1, σ1⟩ := u
    obtain ⟨hE, hP1, hD1⟩ := hB
    subst hE
    rw [ht] at hP1
    obtain ⟨hP2, hD2⟩ := Jn.left (wf := fun u : Mem => W5 k ad u) hP hD σ1 H1 hP1 hD1 hz hk hFc
    try dsimp only at hpx
    rcases hpx with ⟨rfl, hpx⟩ | ⟨rfl, hpx⟩
    · refine vx_catch (name := eIA) (E := eIA) hown [] (tbE (0, 10, 13, 19)) [tbE (0, 10, 16, 21)] htb (fun z hz => by simp at hz) rfl (by decide) (hts _ (List.mem_cons_of_mem _ B_0)) (va_Nw.use rfl (GG.nc hG (q := ("java/lang/IllegalArgumentException", "java/lang/IllegalArgumentException")) 4 rfl)) hcell hcv hcl ?_
      refine lv_astore_n (lv' := [(3, .ref q9), (0, .ref (ad 0)), (1, .int p1), (2, .ref o)]) hx hb dL_field_13 rfl hl (by decide) rfl (fun ls hl => ?_)
      refine lv_iconst (v := 1) hx hb dL_field_14 (by decide) ?_
      exact hret 1 (σ1, n, v) _ _ _ _ _ _ dL_field_15 hP2 hD2 hS1 (Nat.le_of_ble_eq_true rfl) (Nat.le_of_ble_eq_true rfl) hpx
    · refine vx_catch (name := eIS) (E := eIS) hown [tbE (0, 10, 13, 19)] (tbE (0, 10, 16, 21)) [] htb (fun z hz => by obtain rfl := List.mem_singleton.mp hz; exact Or.inr ⟨by decide, eIA, (hts _ (List.mem_cons_of_mem _ B_0)), hN.1⟩) rfl (by decide) (hts _ (List.mem_cons_of_mem _ B_1)) (va_Nw.use rfl (GG.nc hG (q := ("java/lang/IllegalStateException", "java/lang/IllegalStateException")) 5 rfl)) hcell hcv hcl ?_
      refine lv_astore_n (lv' := [(3, .ref q9), (0, .ref (ad 0)), (1, .int p1), (2, .ref o)]) hx hb dL_field_16 rfl hl (by decide) rfl (fun ls hl => ?_)
      refine lv_iconst (v := 2) hx hb dL_field_17 (by decide) ?_
      exact hret 2 (σ1, n, v) _ _ _ _ _ _ dL_field_18 hP2 hD2 hS1 (Nat.le_of_ble_eq_true rfl) (Nat.le_of_ble_eq_true rfl) hpx
  · intro r σ1 t H1 locs1 ht hvm hpost hB hz hk hS1
    obtain ⟨hP1, hD1⟩ := hB
    rw [ht] at hP1
    obtain ⟨hP, hD⟩ := Jn.left (wf := fun u : Mem => W5 k ad u) hP hD σ1 H1 hP1 hD1 hz hk hFc
    try dsimp only at hpost
    refine lv_i2l (v := r.toInt64) hx hb dL_field_6 rfl ?_
    refine va_putN (D := D) (ci := 10) (v := .long r.toInt64) (ty := .long) (C := RX6) (T := TX6) (N := 2) hx hb hts hin_X6 tyX6 tyX6_ok nmX6 hown hK hP hD hS1 45 rfl rfl 0 (by decide) (va_Nw.use rfl (GG.nf hG (q := (RL, 13, "MeetjoinLaw$Out", "n", "J", "MeetjoinLaw")) 0 rfl)) (fun _ h9 => h9) rfl (by decide +kernel) rfl rfl (Nat.le_of_ble_eq_true rfl) dL_field_7 (fun H locs hP hD hS => ?_)
    refine lv_goto (tgt := 19) hx hb dL_field_10 (by decide) ?_
    refine lv_iconst (v := 0) hx hb dL_field_19 (by decide) ?_
    exact hret 0 (σ1, r.toInt64, v) _ _ _ _ _ _ dL_field_20 hP hD hS (Nat.le_of_ble_eq_true rfl) (Nat.le_of_ble_eq_true rfl) hpost
def q_L_oneOf (post : Int32 → Mem → Int64 → Value → Prop) (p1 : Int32) (p2 : Int32) (p3 : Int32) (n : Int64) (v : Value) (σ : Mem) : Prop := q_X5_oneOf (fun (r : Int32) (σ' : Mem) => post 0 σ' r.toInt64 v) (fun (E : String) (σ' : Mem) => (E = eIO ∧ post 1 σ' n v) ∨ (E = eIA ∧ post 2 σ' n v) ∨ (E = eIS ∧ post 3 σ' n v)) p1 p2 p3 σ
abbrev rm_L_oneOf : Room := { frames := 21, cells := 1, slots := 6, locals := 986 }
abbrev wq_L_oneOf : List Cond := Cond.codeWith yL_oneOf cL_oneOf 6 (some .int) [(0, 13, 16, 27), (0, 13, 20, 19), (0, 13, 24, 21)] :: wLAW
set_option maxHeartbeats 4000000 in
set_option maxRecDepth 100000 in
theorem c_L_oneOf (l : Launch) (hflag : l.stackTraces = false) (D : va_G) (k ad : Nat → Nat) (o : Nat) {sz : Nat} {σ : Mem} {n : Int64} {v : Value} {p1 : Int32} {p2 : Int32} {p3 : Int32} {post : Int32 → Mem → Int64 → Value → Prop} (hp : q_L_oneOf post p1 p2 p3 n v σ) : Met l yL_oneOf wq_L_oneOf rm_L_oneOf (va_Pc [.ref (ad 0), .int p1, .int p2, .int p3, .ref o] (PwL D k (W5 k ad σ ++ WO o n v) sz)) (va_Qi (fun r (u : Mem × Int64 × Value) => post r u.1 u.2.1 u.2.2) (fun u => Bw D (W5 k ad σ ++ WO o n v) sz (W5 k ad u.1 ++ WO o u.2.1 u.2.2)) (va_A (W5 k ad σ ++ WO o n v) sz)) 1 6 (va_A (W5 k ad σ ++ WO o n v) sz) := by
  refine fw_L (S := Mem × Int64 × Value) (wf := fun u : Mem × Int64 × Value => W5 k ad u.1 ++ WO o u.2.1 u.2.2) (post := fun r u => post r u.1 u.2.1 u.2.2) (by decide) rfl (Nat.le_of_ble_eq_true rfl) ?_
  intro p e s m args below meth c A Q ls hC hN htb hP hD hl hret
  obtain ⟨⟨hx, hb, hml, hown, hts⟩, hG, hA⟩ := id hC
  have hK := hG.1
  have hS : va_S A s.heap s.heap [] := va_S.rf
  have hl : lv_has ls 6 [(0, .ref (ad 0)), (1, .int p1), (2, .int p2), (3, .int p3), (4, .ref o)] := hl
  have hown : s.vm.findClass RL = some m.cls := hown
  have hin_X6 : ∀ w ∈ u_ws RX6 TX6 2, w ∈ wq_L_oneOf := fun w h => List.mem_cons_of_mem _ (iUB_X6 w h)
  unfold q_L_oneOf at hp
  refine lv_aload hx hb dL_oneOf_0 (lv_at hl 4 rfl) ?_
  refine lv_aload_n hx hb dL_oneOf_2 rfl (lv_at hl 0 rfl) ?_
  refine lv_iload_n hx hb dL_oneOf_3 rfl (lv_at hl 1 rfl) ?_
  refine lv_iload_n hx hb dL_oneOf_4 rfl (lv_at hl 2 rfl) ?_
  refine lv_iload_n hx hb dL_oneOf_5 rfl (lv_at hl 3 rfl) ?_
  have hFc := va_free0 (D_left hD) hS hA
  refine vx_calli (vx_runV (g := F0 m 6 ls ([.int p3, .int p2, .int p1, .ref (ad 0), .ref o])) (As := [.int p1, .int p2, .int p3]) (rest := [.ref o]) hC.1 (c_X5_oneOf l hflag D k ad hp) (cwV 3 hts (gB_V B_7 B_8 B_9 (iB_A _ A_25) (iB_A _ A_226)) rfl rfl rfl (by decide +kernel) ⟨Nat.le_of_ble_eq_true rfl, Nat.le_of_ble_eq_true rfl⟩) ⟨Pw_blind, va_recv hK hP (ci := 9) (q0 := 0) rfl rfl, fw_pre hC (P_left hP) (D_left hD) hS⟩ rfl rfl hl.1 rfl (lv_room (Nat.le_of_ble_eq_true rfl)) dL_oneOf_6 ⟨Nat.le_of_ble_eq_true rfl, Nat.le_of_ble_eq_true rfl⟩) hS (fun q _ h => hFc q h) hFc (fun q _ h => hFc q h) ?_ ?_
  · intro E ce q9 u t H1 locs1 ht hvm hpx hB hz hk hS1 hcell hcv hcl
    obtain ⟨E1, σ1⟩ := u
    obtain ⟨hE, hP1, hD1⟩ := hB
    subst hE
    rw [ht] at hP1
    obtain ⟨hP2, hD2⟩ := Jn.left (wf := fun u : Mem => W5 k ad u) hP hD σ1 H1 hP1 hD1 hz hk hFc
    try dsimp only at hpx
    rcases hpx with ⟨rfl, hpx⟩ | ⟨rfl, hpx⟩ | ⟨rfl, hpx⟩
    · refine vx_catch (name := eIO) (E := eIO) hown [] (tbE (0, 13, 16, 27)) [tbE (0, 13, 20, 19), tbE (0, 13, 24, 21)] htb (fun z hz => by simp at hz) rfl (by decide) (hts _ (List.mem_cons_of_mem _ B_6)) (va_Nw.use rfl (GG.nc hG (q := ("java/lang/IndexOutOfBoundsException", "java/lang/IndexOutOfBoundsException")) 6 rfl)) hcell hcv hcl ?_
      refine lv_astore (lv' := [(5, .ref q9), (0, .ref (ad 0)), (1, .int p1), (2, .int p2), (3, .int p3), (4, .ref o)]) hx hb dL_oneOf_16 hl (by decide) rfl (fun ls hl => ?_)
      refine lv_iconst (v := 1) hx hb dL_oneOf_18 (by decide) ?_
      exact hret 1 (σ1, n, v) _ _ _ _ _ _ dL_oneOf_19 hP2 hD2 hS1 (Nat.le_of_ble_eq_true rfl) (Nat.le_of_ble_eq_true rfl) hpx
    · refine vx_catch (name := eIA) (E := eIA) hown [tbE (0, 13, 16, 27)] (tbE (0, 13, 20, 19)) [tbE (0, 13, 24, 21)] htb (fun z hz => by obtain rfl := List.mem_singleton.mp hz; exact Or.inr ⟨by decide, eIO, (hts _ (List.mem_cons_of_mem _ B_6)), hN.2.1⟩) rfl (by decide) (hts _ (List.mem_cons_of_mem _ B_0)) (va_Nw.use rfl (GG.nc hG (q := ("java/lang/IllegalArgumentException", "java/lang/IllegalArgumentException")) 4 rfl)) hcell hcv hcl ?_
      refine lv_astore (lv' := [(5, .ref q9), (0, .ref (ad 0)), (1, .int p1), (2, .int p2), (3, .int p3), (4, .ref o)]) hx hb dL_oneOf_20 hl (by decide) rfl (fun ls hl => ?_)
      refine lv_iconst (v := 2) hx hb dL_oneOf_22 (by decide) ?_
      exact hret 2 (σ1, n, v) _ _ _ _ _ _ dL_oneOf_23 hP2 hD2 hS1 (Nat.le_of_ble_eq_true rfl) (Nat.le_of_ble_eq_true rfl) hpx
    · refine vx_catch (name := eIS) (E := eIS) hown [tbE (0, 13, 16, 27), tbE (0, 13, 20, 19)] (tbE (0, 13, 24, 21)) [] htb (fun z hz => (List.mem_cons.mp hz).elim (fun h => by subst h; exact Or.inr ⟨by decide, eIO, (hts _ (List.mem_cons_of_mem _ B_6)), hN.2.2⟩) (fun h => by obtain rfl := List.mem_singleton.mp h; exact Or.inr ⟨by decide, eIA, (hts _ (List.mem_cons_of_mem _ B_0)), hN.1⟩)) rfl (by decide) (hts _ (List.mem_cons_of_mem _ B_1)) (va_Nw.use rfl (GG.nc hG (q := ("java/lang/IllegalStateException", "java/lang/IllegalStateException")) 5 rfl)) hcell hcv hcl ?_
      refine lv_astore (lv' := [(5, .ref q9), (0, .ref (ad 0)), (1, .int p1), (2, .int p2), (3, .int p3), (4, .ref o)]) hx hb dL_oneOf_24 hl (by decide) rfl (fun ls hl => ?_)
      refine lv_iconst (v := 3) hx hb dL_oneOf_26 (by decide) ?_
      exact hret 3 (σ1, n, v) _ _ _ _ _ _ dL_oneOf_27 hP2 hD2 hS1 (Nat.le_of_ble_eq_true rfl) (Nat.le_of_ble_eq_true rfl) hpx
  · intro r σ1 t H1 locs1 ht hvm hpost hB hz hk hS1
    obtain ⟨hP1, hD1⟩ := hB
    rw [ht] at hP1
    obtain ⟨hP, hD⟩ := Jn.left (wf := fun u : Mem => W5 k ad u) hP hD σ1 H1 hP1 hD1 hz hk hFc
    try dsimp only at hpost
    refine lv_i2l (v := r.toInt64) hx hb dL_oneOf_9 rfl ?_
    refine va_putN (D := D) (ci := 10) (v := .long r.toInt64) (ty := .long) (C := RX6) (T := TX6) (N := 2) hx hb hts hin_X6 tyX6 tyX6_ok nmX6 hown hK hP hD hS1 45 rfl rfl 0 (by decide) (va_Nw.use rfl (GG.nf hG (q := (RL, 13, "MeetjoinLaw$Out", "n", "J", "MeetjoinLaw")) 0 rfl)) (fun _ h9 => h9) rfl (by decide +kernel) rfl rfl (Nat.le_of_ble_eq_true rfl) dL_oneOf_10 (fun H locs hP hD hS => ?_)
    refine lv_goto (tgt := 28) hx hb dL_oneOf_13 (by decide) ?_
    refine lv_iconst (v := 0) hx hb dL_oneOf_28 (by decide) ?_
    exact hret 0 (σ1, r.toInt64, v) _ _ _ _ _ _ dL_oneOf_29 hP hD hS (Nat.le_of_ble_eq_true rfl) (Nat.le_of_ble_eq_true rfl) hpost
def q_L_bound (post : Int32 → Mem → Int64 → Value → Prop) (p1 : Int32) (p2 : Int32) (p3 : Int32) (p4 : Int32) (n : Int64) (v : Value) (σ : Mem) : Prop := q_X5_bound (fun (r : Int32) (σ' : Mem) => post 0 σ' r.toInt64 v) (fun (E : String) (σ' : Mem) => (E = eIO ∧ post 1 σ' n v) ∨ (E = eIA ∧ post 2 σ' n v) ∨ (E = eIS ∧ post 3 σ' n v)) p1 p2 p3 p4 σ
abbrev rm_L_bound : Room := { frames := 21, cells := 1, slots := 6, locals := 987 }
abbrev wq_L_bound : List Cond := Cond.codeWith yL_bound cL_bound 7 (some .int) [(0, 15, 18, 27), (0, 15, 22, 19), (0, 15, 26, 21)] :: wLAW
set_option maxHeartbeats 4000000 in
set_option maxRecDepth 100000 in
theorem c_L_bound (l : Launch) (hflag : l.stackTraces = false) (D : va_G) (k ad : Nat → Nat) (o : Nat) {sz : Nat} {σ : Mem} {n : Int64} {v : Value} {p1 : Int32} {p2 : Int32} {p3 : Int32} {p4 : Int32} {post : Int32 → Mem → Int64 → Value → Prop} (hp : q_L_bound post p1 p2 p3 p4 n v σ) : Met l yL_bound wq_L_bound rm_L_bound (va_Pc [.ref (ad 0), .int p1, .int p2, .int p3, .int p4, .ref o] (PwL D k (W5 k ad σ ++ WO o n v) sz)) (va_Qi (fun r (u : Mem × Int64 × Value) => post r u.1 u.2.1 u.2.2) (fun u => Bw D (W5 k ad σ ++ WO o n v) sz (W5 k ad u.1 ++ WO o u.2.1 u.2.2)) (va_A (W5 k ad σ ++ WO o n v) sz)) 1 6 (va_A (W5 k ad σ ++ WO o n v) sz) := by
  refine fw_L (S := Mem × Int64 × Value) (wf := fun u : Mem × Int64 × Value => W5 k ad u.1 ++ WO o u.2.1 u.2.2) (post := fun r u => post r u.1 u.2.1 u.2.2) (by decide) rfl (Nat.le_of_ble_eq_true rfl) ?_
  intro p e s m args below meth c A Q ls hC hN htb hP hD hl hret
  obtain ⟨⟨hx, hb, hml, hown, hts⟩, hG, hA⟩ := id hC
  have hK := hG.1
  have hS : va_S A s.heap s.heap [] := va_S.rf
  have hl : lv_has ls 7 [(0, .ref (ad 0)), (1, .int p1), (2, .int p2), (3, .int p3), (4, .int p4), (5, .ref o)] := hl
  have hown : s.vm.findClass RL = some m.cls := hown
  have hin_X6 : ∀ w ∈ u_ws RX6 TX6 2, w ∈ wq_L_bound := fun w h => List.mem_cons_of_mem _ (iUB_X6 w h)
  unfold q_L_bound at hp
  refine lv_aload hx hb dL_bound_0 (lv_at hl 5 rfl) ?_
  refine lv_aload_n hx hb dL_bound_2 rfl (lv_at hl 0 rfl) ?_
  refine lv_iload_n hx hb dL_bound_3 rfl (lv_at hl 1 rfl) ?_
  refine lv_iload_n hx hb dL_bound_4 rfl (lv_at hl 2 rfl) ?_
  refine lv_iload_n hx hb dL_bound_5 rfl (lv_at hl 3 rfl) ?_
  refine lv_iload hx hb dL_bound_6 (lv_at hl 4 rfl) ?_
  have hFc := va_free0 (D_left hD) hS hA
  refine vx_calli (vx_runV (g := F0 m 8 ls ([.int p4, .int p3, .int p2, .int p1, .ref (ad 0), .ref o])) (As := [.int p1, .int p2, .int p3, .int p4]) (rest := [.ref o]) hC.1 (c_X5_bound l hflag D k ad hp) (cwV 4 hts (gB_V B_11 B_12 B_13 (iB_A _ A_25) (iB_A _ A_230)) rfl rfl rfl (by decide +kernel) ⟨Nat.le_of_ble_eq_true rfl, Nat.le_of_ble_eq_true rfl⟩) ⟨Pw_blind, va_recv hK hP (ci := 9) (q0 := 0) rfl rfl, fw_pre hC (P_left hP) (D_left hD) hS⟩ rfl rfl hl.1 rfl (lv_room (Nat.le_of_ble_eq_true rfl)) dL_bound_8 ⟨Nat.le_of_ble_eq_true rfl, Nat.le_of_ble_eq_true rfl⟩) hS (fun q _ h => hFc q h) hFc (fun q _ h => hFc q h) ?_ ?_
  · intro E ce q9 u t H1 locs1 ht hvm hpx hB hz hk hS1 hcell hcv hcl
    obtain ⟨E1, σ1⟩ := u
    obtain ⟨hE, hP1, hD1⟩ := hB
    subst hE
    rw [ht] at hP1
    obtain ⟨hP2, hD2⟩ := Jn.left (wf := fun u : Mem => W5 k ad u) hP hD σ1 H1 hP1 hD1 hz hk hFc
    try dsimp only at hpx
    rcases hpx with ⟨rfl, hpx⟩ | ⟨rfl, hpx⟩ | ⟨rfl, hpx⟩
    · refine vx_catch (name := eIO) (E := eIO) hown [] (tbE (0, 15, 18, 27)) [tbE (0, 15, 22, 19), tbE (0, 15, 26, 21)] htb (fun z hz => by simp at hz) rfl (by decide) (hts _ (List.mem_cons_of_mem _ B_6)) (va_Nw.use rfl (GG.nc hG (q := ("java/lang/IndexOutOfBoundsException", "java/lang/IndexOutOfBoundsException")) 6 rfl)) hcell hcv hcl ?_
      refine lv_astore (lv' := [(6, .ref q9), (0, .ref (ad 0)), (1, .int p1), (2, .int p2), (3, .int p3), (4, .int p4), (5, .ref o)]) hx hb dL_bound_18 hl (by decide) rfl (fun ls hl => ?_)
      refine lv_iconst (v := 1) hx hb dL_bound_20 (by decide) ?_
      exact hret 1 (σ1, n, v) _ _ _ _ _ _ dL_bound_21 hP2 hD2 hS1 (Nat.le_of_ble_eq_true rfl) (Nat.le_of_ble_eq_true rfl) hpx
    · refine vx_catch (name := eIA) (E := eIA) hown [tbE (0, 15, 18, 27)] (tbE (0, 15, 22, 19)) [tbE (0, 15, 26, 21)] htb (fun z hz => by obtain rfl := List.mem_singleton.mp hz; exact Or.inr ⟨by decide, eIO, (hts _ (List.mem_cons_of_mem _ B_6)), hN.2.1⟩) rfl (by decide) (hts _ (List.mem_cons_of_mem _ B_0)) (va_Nw.use rfl (GG.nc hG (q := ("java/lang/IllegalArgumentException", "java/lang/IllegalArgumentException")) 4 rfl)) hcell hcv hcl ?_
      refine lv_astore (lv' := [(6, .ref q9), (0, .ref (ad 0)), (1, .int p1), (2, .int p2), (3, .int p3), (4, .int p4), (5, .ref o)]) hx hb dL_bound_22 hl (by decide) rfl (fun ls hl => ?_)
      refine lv_iconst (v := 2) hx hb dL_bound_24 (by decide) ?_
      exact hret 2 (σ1, n, v) _ _ _ _ _ _ dL_bound_25 hP2 hD2 hS1 (Nat.le_of_ble_eq_true rfl) (Nat.le_of_ble_eq_true rfl) hpx
    · refine vx_catch (name := eIS) (E := eIS) hown [tbE (0, 15, 18, 27), tbE (0, 15, 22, 19)] (tbE (0, 15, 26, 21)) [] htb (fun z hz => (List.mem_cons.mp hz).elim (fun h => by subst h; exact Or.inr ⟨by decide, eIO, (hts _ (List.mem_cons_of_mem _ B_6)), hN.2.2⟩) (fun h => by obtain rfl := List.mem_singleton.mp h; exact Or.inr ⟨by decide, eIA, (hts _ (List.mem_cons_of_mem _ B_0)), hN.1⟩)) rfl (by decide) (hts _ (List.mem_cons_of_mem _ B_1)) (va_Nw.use rfl (GG.nc hG (q := ("java/lang/IllegalStateException", "java/lang/IllegalStateException")) 5 rfl)) hcell hcv hcl ?_
      refine lv_astore (lv' := [(6, .ref q9), (0, .ref (ad 0)), (1, .int p1), (2, .int p2), (3, .int p3), (4, .int p4), (5, .ref o)]) hx hb dL_bound_26 hl (by decide) rfl (fun ls hl => ?_)
      refine lv_iconst (v := 3) hx hb dL_bound_28 (by decide) ?_
      exact hret 3 (σ1, n, v) _ _ _ _ _ _ dL_bound_29 hP2 hD2 hS1 (Nat.le_of_ble_eq_true rfl) (Nat.le_of_ble_eq_true rfl) hpx
  · intro r σ1 t H1 locs1 ht hvm hpost hB hz hk hS1
    obtain ⟨hP1, hD1⟩ := hB
    rw [ht] at hP1
    obtain ⟨hP, hD⟩ := Jn.left (wf := fun u : Mem => W5 k ad u) hP hD σ1 H1 hP1 hD1 hz hk hFc
    try dsimp only at hpost
    refine lv_i2l (v := r.toInt64) hx hb dL_bound_11 rfl ?_
    refine va_putN (D := D) (ci := 10) (v := .long r.toInt64) (ty := .long) (C := RX6) (T := TX6) (N := 2) hx hb hts hin_X6 tyX6 tyX6_ok nmX6 hown hK hP hD hS1 45 rfl rfl 0 (by decide) (va_Nw.use rfl (GG.nf hG (q := (RL, 13, "MeetjoinLaw$Out", "n", "J", "MeetjoinLaw")) 0 rfl)) (fun _ h9 => h9) rfl (by decide +kernel) rfl rfl (Nat.le_of_ble_eq_true rfl) dL_bound_12 (fun H locs hP hD hS => ?_)
    refine lv_goto (tgt := 30) hx hb dL_bound_15 (by decide) ?_
    refine lv_iconst (v := 0) hx hb dL_bound_30 (by decide) ?_
    exact hret 0 (σ1, r.toInt64, v) _ _ _ _ _ _ dL_bound_31 hP hD hS (Nat.le_of_ble_eq_true rfl) (Nat.le_of_ble_eq_true rfl) hpost
def q_L_more (post : Int32 → Mem → Int64 → Value → Prop) (p1 : Int32) (p2 : Int32) (p3 : Int32) (p4 : Int32) (n : Int64) (v : Value) (σ : Mem) : Prop := q_X5_more (fun (r : Int32) (σ' : Mem) => post 0 σ' r.toInt64 v) (fun (E : String) (σ' : Mem) => (E = eIO ∧ post 1 σ' n v) ∨ (E = eIA ∧ post 2 σ' n v) ∨ (E = eIS ∧ post 3 σ' n v)) p1 p2 p3 p4 σ
abbrev rm_L_more : Room := { frames := 21, cells := 1, slots := 6, locals := 987 }
abbrev wq_L_more : List Cond := Cond.codeWith yL_more cL_more 7 (some .int) [(0, 15, 18, 27), (0, 15, 22, 19), (0, 15, 26, 21)] :: wLAW
set_option maxHeartbeats 4000000 in
set_option maxRecDepth 100000 in
theorem c_L_more (l : Launch) (hflag : l.stackTraces = false) (D : va_G) (k ad : Nat → Nat) (o : Nat) {sz : Nat} {σ : Mem} {n : Int64} {v : Value} {p1 : Int32} {p2 : Int32} {p3 : Int32} {p4 : Int32} {post : Int32 → Mem → Int64 → Value → Prop} (hp : q_L_more post p1 p2 p3 p4 n v σ) : Met l yL_more wq_L_more rm_L_more (va_Pc [.ref (ad 0), .int p1, .int p2, .int p3, .int p4, .ref o] (PwL D k (W5 k ad σ ++ WO o n v) sz)) (va_Qi (fun r (u : Mem × Int64 × Value) => post r u.1 u.2.1 u.2.2) (fun u => Bw D (W5 k ad σ ++ WO o n v) sz (W5 k ad u.1 ++ WO o u.2.1 u.2.2)) (va_A (W5 k ad σ ++ WO o n v) sz)) 1 6 (va_A (W5 k ad σ ++ WO o n v) sz) := by
  refine fw_L (S := Mem × Int64 × Value) (wf := fun u : Mem × Int64 × Value => W5 k ad u.1 ++ WO o u.2.1 u.2.2) (post := fun r u => post r u.1 u.2.1 u.2.2) (by decide) rfl (Nat.le_of_ble_eq_true rfl) ?_
  intro p e s m args below meth c A Q ls hC hN htb hP hD hl hret
  obtain ⟨⟨hx, hb, hml, hown, hts⟩, hG, hA⟩ := id hC
  have hK := hG.1
  have hS : va_S A s.heap s.heap [] := va_S.rf
  have hl : lv_has ls 7 [(0, .ref (ad 0)), (1, .int p1), (2, .int p2), (3, .int p3), (4, .int p4), (5, .ref o)] := hl
  have hown : s.vm.findClass RL = some m.cls := hown
  have hin_X6 : ∀ w ∈ u_ws RX6 TX6 2, w ∈ wq_L_more := fun w h => List.mem_cons_of_mem _ (iUB_X6 w h)
  unfold q_L_more at hp
  refine lv_aload hx hb dL_more_0 (lv_at hl 5 rfl) ?_
  refine lv_aload_n hx hb dL_more_2 rfl (lv_at hl 0 rfl) ?_
  refine lv_iload_n hx hb dL_more_3 rfl (lv_at hl 1 rfl) ?_
  refine lv_iload_n hx hb dL_more_4 rfl (lv_at hl 2 rfl) ?_
  refine lv_iload_n hx hb dL_more_5 rfl (lv_at hl 3 rfl) ?_
  refine lv_iload hx hb dL_more_6 (lv_at hl 4 rfl) ?_
  have hFc := va_free0 (D_left hD) hS hA
  refine vx_calli (vx_runV (g := F0 m 8 ls ([.int p4, .int p3, .int p2, .int p1, .ref (ad 0), .ref o])) (As := [.int p1, .int p2, .int p3, .int p4]) (rest := [.ref o]) hC.1 (c_X5_more l hflag D k ad hp) (cwV 4 hts (gB_V B_15 B_16 B_17 (iB_A _ A_25) (iB_A _ A_231)) rfl rfl rfl (by decide +kernel) ⟨Nat.le_of_ble_eq_true rfl, Nat.le_of_ble_eq_true rfl⟩) ⟨Pw_blind, va_recv hK hP (ci := 9) (q0 := 0) rfl rfl, fw_pre hC (P_left hP) (D_left hD) hS⟩ rfl rfl hl.1 rfl (lv_room (Nat.le_of_ble_eq_true rfl)) dL_more_8 ⟨Nat.le_of_ble_eq_true rfl, Nat.le_of_ble_eq_true rfl⟩) hS (fun q _ h => hFc q h) hFc (fun q _ h => hFc q h) ?_ ?_
  · intro E ce q9 u t H1 locs1 ht hvm hpx hB hz hk hS1 hcell hcv hcl
    obtain ⟨E1, σ1⟩ := u
    obtain ⟨hE, hP1, hD1⟩ := hB
    subst hE
    rw [ht] at hP1
    obtain ⟨hP2, hD2⟩ := Jn.left (wf := fun u : Mem => W5 k ad u) hP hD σ1 H1 hP1 hD1 hz hk hFc
    try dsimp only at hpx
    rcases hpx with ⟨rfl, hpx⟩ | ⟨rfl, hpx⟩ | ⟨rfl, hpx⟩
    · refine vx_catch (name := eIO) (E := eIO) hown [] (tbE (0, 15, 18, 27)) [tbE (0, 15, 22, 19), tbE (0, 15, 26, 21)] htb (fun z hz => by simp at hz) rfl (by decide) (hts _ (List.mem_cons_of_mem _ B_6)) (va_Nw.use rfl (GG.nc hG (q := ("java/lang/IndexOutOfBoundsException", "java/lang/IndexOutOfBoundsException")) 6 rfl)) hcell hcv hcl ?_
      refine lv_astore (lv' := [(6, .ref q9), (0, .ref (ad 0)), (1, .int p1), (2, .int p2), (3, .int p3), (4, .int p4), (5, .ref o)]) hx hb dL_more_18 hl (by decide) rfl (fun ls hl => ?_)
      refine lv_iconst (v := 1) hx hb dL_more_20 (by decide) ?_
      exact hret 1 (σ1, n, v) _ _ _ _ _ _ dL_more_21 hP2 hD2 hS1 (Nat.le_of_ble_eq_true rfl) (Nat.le_of_ble_eq_true rfl) hpx
    · refine vx_catch (name := eIA) (E := eIA) hown [tbE (0, 15, 18, 27)] (tbE (0, 15, 22, 19)) [tbE (0, 15, 26, 21)] htb (fun z hz => by obtain rfl := List.mem_singleton.mp hz; exact Or.inr ⟨by decide, eIO, (hts _ (List.mem_cons_of_mem _ B_6)), hN.2.1⟩) rfl (by decide) (hts _ (List.mem_cons_of_mem _ B_0)) (va_Nw.use rfl (GG.nc hG (q := ("java/lang/IllegalArgumentException", "java/lang/IllegalArgumentException")) 4 rfl)) hcell hcv hcl ?_
      refine lv_astore (lv' := [(6, .ref q9), (0, .ref (ad 0)), (1, .int p1), (2, .int p2), (3, .int p3), (4, .int p4), (5, .ref o)]) hx hb dL_more_22 hl (by decide) rfl (fun ls hl => ?_)
      refine lv_iconst (v := 2) hx hb dL_more_24 (by decide) ?_
      exact hret 2 (σ1, n, v) _ _ _ _ _ _ dL_more_25 hP2 hD2 hS1 (Nat.le_of_ble_eq_true rfl) (Nat.le_of_ble_eq_true rfl) hpx
    · refine vx_catch (name := eIS) (E := eIS) hown [tbE (0, 15, 18, 27), tbE (0, 15, 22, 19)] (tbE (0, 15, 26, 21)) [] htb (fun z hz => (List.mem_cons.mp hz).elim (fun h => by subst h; exact Or.inr ⟨by decide, eIO, (hts _ (List.mem_cons_of_mem _ B_6)), hN.2.2⟩) (fun h => by obtain rfl := List.mem_singleton.mp h; exact Or.inr ⟨by decide, eIA, (hts _ (List.mem_cons_of_mem _ B_0)), hN.1⟩)) rfl (by decide) (hts _ (List.mem_cons_of_mem _ B_1)) (va_Nw.use rfl (GG.nc hG (q := ("java/lang/IllegalStateException", "java/lang/IllegalStateException")) 5 rfl)) hcell hcv hcl ?_
      refine lv_astore (lv' := [(6, .ref q9), (0, .ref (ad 0)), (1, .int p1), (2, .int p2), (3, .int p3), (4, .int p4), (5, .ref o)]) hx hb dL_more_26 hl (by decide) rfl (fun ls hl => ?_)
      refine lv_iconst (v := 3) hx hb dL_more_28 (by decide) ?_
      exact hret 3 (σ1, n, v) _ _ _ _ _ _ dL_more_29 hP2 hD2 hS1 (Nat.le_of_ble_eq_true rfl) (Nat.le_of_ble_eq_true rfl) hpx
  · intro r σ1 t H1 locs1 ht hvm hpost hB hz hk hS1
    obtain ⟨hP1, hD1⟩ := hB
    rw [ht] at hP1
    obtain ⟨hP, hD⟩ := Jn.left (wf := fun u : Mem => W5 k ad u) hP hD σ1 H1 hP1 hD1 hz hk hFc
    try dsimp only at hpost
    refine lv_i2l (v := r.toInt64) hx hb dL_more_11 rfl ?_
    refine va_putN (D := D) (ci := 10) (v := .long r.toInt64) (ty := .long) (C := RX6) (T := TX6) (N := 2) hx hb hts hin_X6 tyX6 tyX6_ok nmX6 hown hK hP hD hS1 45 rfl rfl 0 (by decide) (va_Nw.use rfl (GG.nf hG (q := (RL, 13, "MeetjoinLaw$Out", "n", "J", "MeetjoinLaw")) 0 rfl)) (fun _ h9 => h9) rfl (by decide +kernel) rfl rfl (Nat.le_of_ble_eq_true rfl) dL_more_12 (fun H locs hP hD hS => ?_)
    refine lv_goto (tgt := 30) hx hb dL_more_15 (by decide) ?_
    refine lv_iconst (v := 0) hx hb dL_more_30 (by decide) ?_
    exact hret 0 (σ1, r.toInt64, v) _ _ _ _ _ _ dL_more_31 hP hD hS (Nat.le_of_ble_eq_true rfl) (Nat.le_of_ble_eq_true rfl) hpost
def q_L_unlike (post : Int32 → Mem → Int64 → Value → Prop) (p1 : Int32) (p2 : Int32) (p3 : Int32) (n : Int64) (v : Value) (σ : Mem) : Prop := q_X5_unlike (fun (r : Int32) (σ' : Mem) => post 0 σ' r.toInt64 v) (fun (E : String) (σ' : Mem) => (E = eIO ∧ post 1 σ' n v) ∨ (E = eIA ∧ post 2 σ' n v) ∨ (E = eIS ∧ post 3 σ' n v)) p1 p2 p3 σ
abbrev rm_L_unlike : Room := { frames := 21, cells := 1, slots := 6, locals := 986 }
abbrev wq_L_unlike : List Cond := Cond.codeWith yL_unlike cL_unlike 6 (some .int) [(0, 13, 16, 27), (0, 13, 20, 19), (0, 13, 24, 21)] :: wLAW
set_option maxHeartbeats 4000000 in
set_option maxRecDepth 100000 in
theorem c_L_unlike (l : Launch) (hflag : l.stackTraces = false) (D : va_G) (k ad : Nat → Nat) (o : Nat) {sz : Nat} {σ : Mem} {n : Int64} {v : Value} {p1 : Int32} {p2 : Int32} {p3 : Int32} {post : Int32 → Mem → Int64 → Value → Prop} (hp : q_L_unlike post p1 p2 p3 n v σ) : Met l yL_unlike wq_L_unlike rm_L_unlike (va_Pc [.ref (ad 0), .int p1, .int p2, .int p3, .ref o] (PwL D k (W5 k ad σ ++ WO o n v) sz)) (va_Qi (fun r (u : Mem × Int64 × Value) => post r u.1 u.2.1 u.2.2) (fun u => Bw D (W5 k ad σ ++ WO o n v) sz (W5 k ad u.1 ++ WO o u.2.1 u.2.2)) (va_A (W5 k ad σ ++ WO o n v) sz)) 1 6 (va_A (W5 k ad σ ++ WO o n v) sz) := by
  refine fw_L (S := Mem × Int64 × Value) (wf := fun u : Mem × Int64 × Value => W5 k ad u.1 ++ WO o u.2.1 u.2.2) (post := fun r u => post r u.1 u.2.1 u.2.2) (by decide) rfl (Nat.le_of_ble_eq_true rfl) ?_
  intro p e s m args below meth c A Q ls hC hN htb hP hD hl hret
  obtain ⟨⟨hx, hb, hml, hown, hts⟩, hG, hA⟩ := id hC
  have hK := hG.1
  have hS : va_S A s.heap s.heap [] := va_S.rf
  have hl : lv_has ls 6 [(0, .ref (ad 0)), (1, .int p1), (2, .int p2), (3, .int p3), (4, .ref o)] := hl
  have hown : s.vm.findClass RL = some m.cls := hown
  have hin_X6 : ∀ w ∈ u_ws RX6 TX6 2, w ∈ wq_L_unlike := fun w h => List.mem_cons_of_mem _ (iUB_X6 w h)
  unfold q_L_unlike at hp
  refine lv_aload hx hb dL_unlike_0 (lv_at hl 4 rfl) ?_
  refine lv_aload_n hx hb dL_unlike_2 rfl (lv_at hl 0 rfl) ?_
  refine lv_iload_n hx hb dL_unlike_3 rfl (lv_at hl 1 rfl) ?_
  refine lv_iload_n hx hb dL_unlike_4 rfl (lv_at hl 2 rfl) ?_
  refine lv_iload_n hx hb dL_unlike_5 rfl (lv_at hl 3 rfl) ?_
  have hFc := va_free0 (D_left hD) hS hA
  refine vx_calli (vx_runV (g := F0 m 6 ls ([.int p3, .int p2, .int p1, .ref (ad 0), .ref o])) (As := [.int p1, .int p2, .int p3]) (rest := [.ref o]) hC.1 (c_X5_unlike l hflag D k ad hp) (cwV 3 hts (gB_V B_19 B_20 B_21 (iB_A _ A_25) (iB_A _ A_232)) rfl rfl rfl (by decide +kernel) ⟨Nat.le_of_ble_eq_true rfl, Nat.le_of_ble_eq_true rfl⟩) ⟨Pw_blind, va_recv hK hP (ci := 9) (q0 := 0) rfl rfl, fw_pre hC (P_left hP) (D_left hD) hS⟩ rfl rfl hl.1 rfl (lv_room (Nat.le_of_ble_eq_true rfl)) dL_unlike_6 ⟨Nat.le_of_ble_eq_true rfl, Nat.le_of_ble_eq_true rfl⟩) hS (fun q _ h => hFc q h) hFc (fun q _ h => hFc q h) ?_ ?_
  · intro E ce q9 u t H1 locs1 ht hvm hpx hB hz hk hS1 hcell hcv hcl
    obtain ⟨E1, σ1⟩ := u
    obtain ⟨hE, hP1, hD1⟩ := hB
    subst hE
    rw [ht] at hP1
    obtain ⟨hP2, hD2⟩ := Jn.left (wf := fun u : Mem => W5 k ad u) hP hD σ1 H1 hP1 hD1 hz hk hFc
    try dsimp only at hpx
    rcases hpx with ⟨rfl, hpx⟩ | ⟨rfl, hpx⟩ | ⟨rfl, hpx⟩
    · refine vx_catch (name := eIO) (E := eIO) hown [] (tbE (0, 13, 16, 27)) [tbE (0, 13, 20, 19), tbE (0, 13, 24, 21)] htb (fun z hz => by simp at hz) rfl (by decide) (hts _ (List.mem_cons_of_mem _ B_6)) (va_Nw.use rfl (GG.nc hG (q := ("java/lang/IndexOutOfBoundsException", "java/lang/IndexOutOfBoundsException")) 6 rfl)) hcell hcv hcl ?_
      refine lv_astore (lv' := [(5, .ref q9), (0, .ref (ad 0)), (1, .int p1), (2, .int p2), (3, .int p3), (4, .ref o)]) hx hb dL_unlike_16 hl (by decide) rfl (fun ls hl => ?_)
      refine lv_iconst (v := 1) hx hb dL_unlike_18 (by decide) ?_
      exact hret 1 (σ1, n, v) _ _ _ _ _ _ dL_unlike_19 hP2 hD2 hS1 (Nat.le_of_ble_eq_true rfl) (Nat.le_of_ble_eq_true rfl) hpx
    · refine vx_catch (name := eIA) (E := eIA) hown [tbE (0, 13, 16, 27)] (tbE (0, 13, 20, 19)) [tbE (0, 13, 24, 21)] htb (fun z hz => by obtain rfl := List.mem_singleton.mp hz; exact Or.inr ⟨by decide, eIO, (hts _ (List.mem_cons_of_mem _ B_6)), hN.2.1⟩) rfl (by decide) (hts _ (List.mem_cons_of_mem _ B_0)) (va_Nw.use rfl (GG.nc hG (q := ("java/lang/IllegalArgumentException", "java/lang/IllegalArgumentException")) 4 rfl)) hcell hcv hcl ?_
      refine lv_astore (lv' := [(5, .ref q9), (0, .ref (ad 0)), (1, .int p1), (2, .int p2), (3, .int p3), (4, .ref o)]) hx hb dL_unlike_20 hl (by decide) rfl (fun ls hl => ?_)
      refine lv_iconst (v := 2) hx hb dL_unlike_22 (by decide) ?_
      exact hret 2 (σ1, n, v) _ _ _ _ _ _ dL_unlike_23 hP2 hD2 hS1 (Nat.le_of_ble_eq_true rfl) (Nat.le_of_ble_eq_true rfl) hpx
    · refine vx_catch (name := eIS) (E := eIS) hown [tbE (0, 13, 16, 27), tbE (0, 13, 20, 19)] (tbE (0, 13, 24, 21)) [] htb (fun z hz => (List.mem_cons.mp hz).elim (fun h => by subst h; exact Or.inr ⟨by decide, eIO, (hts _ (List.mem_cons_of_mem _ B_6)), hN.2.2⟩) (fun h => by obtain rfl := List.mem_singleton.mp h; exact Or.inr ⟨by decide, eIA, (hts _ (List.mem_cons_of_mem _ B_0)), hN.1⟩)) rfl (by decide) (hts _ (List.mem_cons_of_mem _ B_1)) (va_Nw.use rfl (GG.nc hG (q := ("java/lang/IllegalStateException", "java/lang/IllegalStateException")) 5 rfl)) hcell hcv hcl ?_
      refine lv_astore (lv' := [(5, .ref q9), (0, .ref (ad 0)), (1, .int p1), (2, .int p2), (3, .int p3), (4, .ref o)]) hx hb dL_unlike_24 hl (by decide) rfl (fun ls hl => ?_)
      refine lv_iconst (v := 3) hx hb dL_unlike_26 (by decide) ?_
      exact hret 3 (σ1, n, v) _ _ _ _ _ _ dL_unlike_27 hP2 hD2 hS1 (Nat.le_of_ble_eq_true rfl) (Nat.le_of_ble_eq_true rfl) hpx
  · intro r σ1 t H1 locs1 ht hvm hpost hB hz hk hS1
    obtain ⟨hP1, hD1⟩ := hB
    rw [ht] at hP1
    obtain ⟨hP, hD⟩ := Jn.left (wf := fun u : Mem => W5 k ad u) hP hD σ1 H1 hP1 hD1 hz hk hFc
    try dsimp only at hpost
    refine lv_i2l (v := r.toInt64) hx hb dL_unlike_9 rfl ?_
    refine va_putN (D := D) (ci := 10) (v := .long r.toInt64) (ty := .long) (C := RX6) (T := TX6) (N := 2) hx hb hts hin_X6 tyX6 tyX6_ok nmX6 hown hK hP hD hS1 45 rfl rfl 0 (by decide) (va_Nw.use rfl (GG.nf hG (q := (RL, 13, "MeetjoinLaw$Out", "n", "J", "MeetjoinLaw")) 0 rfl)) (fun _ h9 => h9) rfl (by decide +kernel) rfl rfl (Nat.le_of_ble_eq_true rfl) dL_unlike_10 (fun H locs hP hD hS => ?_)
    refine lv_goto (tgt := 28) hx hb dL_unlike_13 (by decide) ?_
    refine lv_iconst (v := 0) hx hb dL_unlike_28 (by decide) ?_
    exact hret 0 (σ1, r.toInt64, v) _ _ _ _ _ _ dL_unlike_29 hP hD hS (Nat.le_of_ble_eq_true rfl) (Nat.le_of_ble_eq_true rfl) hpost
def q_L_preset (post : Int32 → Mem → Int64 → Value → Prop) (p1 : Int32) (p2 : Int32) (p3 : Int32) (p4 : Int32) (n : Int64) (v : Value) (σ : Mem) : Prop := q_X5_preset (fun (r : Int32) (σ' : Mem) => post 0 σ' r.toInt64 v) (fun (E : String) (σ' : Mem) => (E = eIO ∧ post 1 σ' n v) ∨ (E = eIA ∧ post 2 σ' n v) ∨ (E = eIS ∧ post 3 σ' n v)) p1 p2 p3 p4 σ
abbrev rm_L_preset : Room := { frames := 21, cells := 1, slots := 6, locals := 987 }
abbrev wq_L_preset : List Cond := Cond.codeWith yL_preset cL_preset 7 (some .int) [(0, 15, 18, 27), (0, 15, 22, 19), (0, 15, 26, 21)] :: wLAW
set_option maxHeartbeats 4000000 in
set_option maxRecDepth 100000 in
theorem c_L_preset (l : Launch) (hflag : l.stackTraces = false) (D : va_G) (k ad : Nat → Nat) (o : Nat) {sz : Nat} {σ : Mem} {n : Int64} {v : Value} {p1 : Int32} {p2 : Int32} {p3 : Int32} {p4 : Int32} {post : Int32 → Mem → Int64 → Value → Prop} (hp : q_L_preset post p1 p2 p3 p4 n v σ) : Met l yL_preset wq_L_preset rm_L_preset (va_Pc [.ref (ad 0), .int p1, .int p2, .int p3, .int p4, .ref o] (PwL D k (W5 k ad σ ++ WO o n v) sz)) (va_Qi (fun r (u : Mem × Int64 × Value) => post r u.1 u.2.1 u.2.2) (fun u => Bw D (W5 k ad σ ++ WO o n v) sz (W5 k ad u.1 ++ WO o u.2.1 u.2.2)) (va_A (W5 k ad σ ++ WO o n v) sz)) 1 6 (va_A (W5 k ad σ ++ WO o n v) sz) := by
  refine fw_L (S := Mem × Int64 × Value) (wf := fun u : Mem × Int64 × Value => W5 k ad u.1 ++ WO o u.2.1 u.2.2) (post := fun r u => post r u.1 u.2.1 u.2.2) (by decide) rfl (Nat.le_of_ble_eq_true rfl) ?_
  intro p e s m args below meth c A Q ls hC hN htb hP hD hl hret
  obtain ⟨⟨hx, hb, hml, hown, hts⟩, hG, hA⟩ := id hC
  have hK := hG.1
  have hS : va_S A s.heap s.heap [] := va_S.rf
  have hl : lv_has ls 7 [(0, .ref (ad 0)), (1, .int p1), (2, .int p2), (3, .int p3), (4, .int p4), (5, .ref o)] := hl
  have hown : s.vm.findClass RL = some m.cls := hown
  have hin_X6 : ∀ w ∈ u_ws RX6 TX6 2, w ∈ wq_L_preset := fun w h => List.mem_cons_of_mem _ (iUB_X6 w h)
  unfold q_L_preset at hp
  refine lv_aload hx hb dL_preset_0 (lv_at hl 5 rfl) ?_
  refine lv_aload_n hx hb dL_preset_2 rfl (lv_at hl 0 rfl) ?_
  refine lv_iload_n hx hb dL_preset_3 rfl (lv_at hl 1 rfl) ?_
  refine lv_iload_n hx hb dL_preset_4 rfl (lv_at hl 2 rfl) ?_
  refine lv_iload_n hx hb dL_preset_5 rfl (lv_at hl 3 rfl) ?_
  refine lv_iload hx hb dL_preset_6 (lv_at hl 4 rfl) ?_
  have hFc := va_free0 (D_left hD) hS hA
  refine vx_calli (vx_runV (g := F0 m 8 ls ([.int p4, .int p3, .int p2, .int p1, .ref (ad 0), .ref o])) (As := [.int p1, .int p2, .int p3, .int p4]) (rest := [.ref o]) hC.1 (c_X5_preset l hflag D k ad hp) (cwV 4 hts (gB_V B_23 B_24 B_25 (iB_A _ A_25) (iB_A _ A_233)) rfl rfl rfl (by decide +kernel) ⟨Nat.le_of_ble_eq_true rfl, Nat.le_of_ble_eq_true rfl⟩) ⟨Pw_blind, va_recv hK hP (ci := 9) (q0 := 0) rfl rfl, fw_pre hC (P_left hP) (D_left hD) hS⟩ rfl rfl hl.1 rfl (lv_room (Nat.le_of_ble_eq_true rfl)) dL_preset_8 ⟨Nat.le_of_ble_eq_true rfl, Nat.le_of_ble_eq_true rfl⟩) hS (fun q _ h => hFc q h) hFc (fun q _ h => hFc q h) ?_ ?_
  · intro E ce q9 u t H1 locs1 ht hvm hpx hB hz hk hS1 hcell hcv hcl
    obtain ⟨E1, σ1⟩ := u
    obtain ⟨hE, hP1, hD1⟩ := hB
    subst hE
    rw [ht] at hP1
    obtain ⟨hP2, hD2⟩ := Jn.left (wf := fun u : Mem => W5 k ad u) hP hD σ1 H1 hP1 hD1 hz hk hFc
    try dsimp only at hpx
    rcases hpx with ⟨rfl, hpx⟩ | ⟨rfl, hpx⟩ | ⟨rfl, hpx⟩
    · refine vx_catch (name := eIO) (E := eIO) hown [] (tbE (0, 15, 18, 27)) [tbE (0, 15, 22, 19), tbE (0, 15, 26, 21)] htb (fun z hz => by simp at hz) rfl (by decide) (hts _ (List.mem_cons_of_mem _ B_6)) (va_Nw.use rfl (GG.nc hG (q := ("java/lang/IndexOutOfBoundsException", "java/lang/IndexOutOfBoundsException")) 6 rfl)) hcell hcv hcl ?_
      refine lv_astore (lv' := [(6, .ref q9), (0, .ref (ad 0)), (1, .int p1), (2, .int p2), (3, .int p3), (4, .int p4), (5, .ref o)]) hx hb dL_preset_18 hl (by decide) rfl (fun ls hl => ?_)
      refine lv_iconst (v := 1) hx hb dL_preset_20 (by decide) ?_
      exact hret 1 (σ1, n, v) _ _ _ _ _ _ dL_preset_21 hP2 hD2 hS1 (Nat.le_of_ble_eq_true rfl) (Nat.le_of_ble_eq_true rfl) hpx
    · refine vx_catch (name := eIA) (E := eIA) hown [tbE (0, 15, 18, 27)] (tbE (0, 15, 22, 19)) [tbE (0, 15, 26, 21)] htb (fun z hz => by obtain rfl := List.mem_singleton.mp hz; exact Or.inr ⟨by decide, eIO, (hts _ (List.mem_cons_of_mem _ B_6)), hN.2.1⟩) rfl (by decide) (hts _ (List.mem_cons_of_mem _ B_0)) (va_Nw.use rfl (GG.nc hG (q := ("java/lang/IllegalArgumentException", "java/lang/IllegalArgumentException")) 4 rfl)) hcell hcv hcl ?_
      refine lv_astore (lv' := [(6, .ref q9), (0, .ref (ad 0)), (1, .int p1), (2, .int p2), (3, .int p3), (4, .int p4), (5, .ref o)]) hx hb dL_preset_22 hl (by decide) rfl (fun ls hl => ?_)
      refine lv_iconst (v := 2) hx hb dL_preset_24 (by decide) ?_
      exact hret 2 (σ1, n, v) _ _ _ _ _ _ dL_preset_25 hP2 hD2 hS1 (Nat.le_of_ble_eq_true rfl) (Nat.le_of_ble_eq_true rfl) hpx
    · refine vx_catch (name := eIS) (E := eIS) hown [tbE (0, 15, 18, 27), tbE (0, 15, 22, 19)] (tbE (0, 15, 26, 21)) [] htb (fun z hz => (List.mem_cons.mp hz).elim (fun h => by subst h; exact Or.inr ⟨by decide, eIO, (hts _ (List.mem_cons_of_mem _ B_6)), hN.2.2⟩) (fun h => by obtain rfl := List.mem_singleton.mp h; exact Or.inr ⟨by decide, eIA, (hts _ (List.mem_cons_of_mem _ B_0)), hN.1⟩)) rfl (by decide) (hts _ (List.mem_cons_of_mem _ B_1)) (va_Nw.use rfl (GG.nc hG (q := ("java/lang/IllegalStateException", "java/lang/IllegalStateException")) 5 rfl)) hcell hcv hcl ?_
      refine lv_astore (lv' := [(6, .ref q9), (0, .ref (ad 0)), (1, .int p1), (2, .int p2), (3, .int p3), (4, .int p4), (5, .ref o)]) hx hb dL_preset_26 hl (by decide) rfl (fun ls hl => ?_)
      refine lv_iconst (v := 3) hx hb dL_preset_28 (by decide) ?_
      exact hret 3 (σ1, n, v) _ _ _ _ _ _ dL_preset_29 hP2 hD2 hS1 (Nat.le_of_ble_eq_true rfl) (Nat.le_of_ble_eq_true rfl) hpx
  · intro r σ1 t H1 locs1 ht hvm hpost hB hz hk hS1
    obtain ⟨hP1, hD1⟩ := hB
    rw [ht] at hP1
    obtain ⟨hP, hD⟩ := Jn.left (wf := fun u : Mem => W5 k ad u) hP hD σ1 H1 hP1 hD1 hz hk hFc
    try dsimp only at hpost
    refine lv_i2l (v := r.toInt64) hx hb dL_preset_11 rfl ?_
    refine va_putN (D := D) (ci := 10) (v := .long r.toInt64) (ty := .long) (C := RX6) (T := TX6) (N := 2) hx hb hts hin_X6 tyX6 tyX6_ok nmX6 hown hK hP hD hS1 45 rfl rfl 0 (by decide) (va_Nw.use rfl (GG.nf hG (q := (RL, 13, "MeetjoinLaw$Out", "n", "J", "MeetjoinLaw")) 0 rfl)) (fun _ h9 => h9) rfl (by decide +kernel) rfl rfl (Nat.le_of_ble_eq_true rfl) dL_preset_12 (fun H locs hP hD hS => ?_)
    refine lv_goto (tgt := 30) hx hb dL_preset_15 (by decide) ?_
    refine lv_iconst (v := 0) hx hb dL_preset_30 (by decide) ?_
    exact hret 0 (σ1, r.toInt64, v) _ _ _ _ _ _ dL_preset_31 hP hD hS (Nat.le_of_ble_eq_true rfl) (Nat.le_of_ble_eq_true rfl) hpost
def q_L_approve (post : Int32 → Mem → Int64 → Value → Prop) (p1 : Int32) (p2 : Int32) (n : Int64) (v : Value) (σ : Mem) : Prop := q_X5_approve (fun (r : Int32) (σ' : Mem) => ((r ≠ 0 → post 0 σ' 1 v) ∧ (r = 0 → post 0 σ' 0 v))) (fun (E : String) (σ' : Mem) => (E = eIO ∧ post 1 σ' n v)) p1 p2 σ
abbrev rm_L_approve : Room := { frames := 20, cells := 1, slots := 6, locals := 959 }
abbrev wq_L_approve : List Cond := Cond.codeWith yL_approve cL_approve 5 (some .int) [(0, 18, 21, 27)] :: wLAW
set_option maxHeartbeats 4000000 in
set_option maxRecDepth 100000 in
theorem c_L_approve (l : Launch) (hflag : l.stackTraces = false) (D : va_G) (k ad : Nat → Nat) (o : Nat) {sz : Nat} {σ : Mem} {n : Int64} {v : Value} {p1 : Int32} {p2 : Int32} {post : Int32 → Mem → Int64 → Value → Prop} (hp : q_L_approve post p1 p2 n v σ) : Met l yL_approve wq_L_approve rm_L_approve (va_Pc [.ref (ad 0), .int p1, .int p2, .ref o] (PwL D k (W5 k ad σ ++ WO o n v) sz)) (va_Qi (fun r (u : Mem × Int64 × Value) => post r u.1 u.2.1 u.2.2) (fun u => Bw D (W5 k ad σ ++ WO o n v) sz (W5 k ad u.1 ++ WO o u.2.1 u.2.2)) (va_A (W5 k ad σ ++ WO o n v) sz)) 1 6 (va_A (W5 k ad σ ++ WO o n v) sz) := by
  refine fw_L (S := Mem × Int64 × Value) (wf := fun u : Mem × Int64 × Value => W5 k ad u.1 ++ WO o u.2.1 u.2.2) (post := fun r u => post r u.1 u.2.1 u.2.2) (by decide) rfl (Nat.le_of_ble_eq_true rfl) ?_
  intro p e s m args below meth c A Q ls hC hN htb hP hD hl hret
  obtain ⟨⟨hx, hb, hml, hown, hts⟩, hG, hA⟩ := id hC
  have hK := hG.1
  have hS : va_S A s.heap s.heap [] := va_S.rf
  have hl : lv_has ls 5 [(0, .ref (ad 0)), (1, .int p1), (2, .int p2), (3, .ref o)] := hl
  have hown : s.vm.findClass RL = some m.cls := hown
  have hin_X6 : ∀ w ∈ u_ws RX6 TX6 2, w ∈ wq_L_approve := fun w h => List.mem_cons_of_mem _ (iUB_X6 w h)
  unfold q_L_approve at hp
  refine lv_aload_n hx hb dL_approve_0 rfl (lv_at hl 3 rfl) ?_
  refine lv_aload_n hx hb dL_approve_1 rfl (lv_at hl 0 rfl) ?_
  refine lv_iload_n hx hb dL_approve_2 rfl (lv_at hl 1 rfl) ?_
  refine lv_iload_n hx hb dL_approve_3 rfl (lv_at hl 2 rfl) ?_
  have hFc := va_free0 (D_left hD) hS hA
  refine vx_calli (vx_runV (g := F0 m 4 ls ([.int p2, .int p1, .ref (ad 0), .ref o])) (As := [.int p1, .int p2]) (rest := [.ref o]) hC.1 (c_X5_approve l hflag D k ad hp) (cwV 2 hts (gB_V B_27 B_28 B_29 (iB_A _ A_25) (iB_A _ A_240)) rfl rfl rfl (by decide +kernel) ⟨Nat.le_of_ble_eq_true rfl, Nat.le_of_ble_eq_true rfl⟩) ⟨Pw_blind, va_recv hK hP (ci := 9) (q0 := 0) rfl rfl, fw_pre hC (P_left hP) (D_left hD) hS⟩ rfl rfl hl.1 rfl (lv_room (Nat.le_of_ble_eq_true rfl)) dL_approve_4 ⟨Nat.le_of_ble_eq_true rfl, Nat.le_of_ble_eq_true rfl⟩) hS (fun q _ h => hFc q h) hFc (fun q _ h => hFc q h) ?_ ?_
  · intro E ce q9 u t H1 locs1 ht hvm hpx hB hz hk hS1 hcell hcv hcl
    obtain ⟨E1, σ1⟩ := u
    obtain ⟨hE, hP1, hD1⟩ := hB
    subst hE
    rw [ht] at hP1
    obtain ⟨hP2, hD2⟩ := Jn.left (wf := fun u : Mem => W5 k ad u) hP hD σ1 H1 hP1 hD1 hz hk hFc
    try dsimp only at hpx
    obtain ⟨rfl, hpx⟩ := hpx
    refine vx_catch (name := eIO) (E := eIO) hown [] (tbE (0, 18, 21, 27)) [] htb (fun z hz => by simp at hz) rfl (by decide) (hts _ (List.mem_cons_of_mem _ B_6)) (va_Nw.use rfl (GG.nc hG (q := ("java/lang/IndexOutOfBoundsException", "java/lang/IndexOutOfBoundsException")) 6 rfl)) hcell hcv hcl ?_
    refine lv_astore (lv' := [(4, .ref q9), (0, .ref (ad 0)), (1, .int p1), (2, .int p2), (3, .ref o)]) hx hb dL_approve_21 hl (by decide) rfl (fun ls hl => ?_)
    refine lv_iconst (v := 1) hx hb dL_approve_23 (by decide) ?_
    exact hret 1 (σ1, n, v) _ _ _ _ _ _ dL_approve_24 hP2 hD2 hS1 (Nat.le_of_ble_eq_true rfl) (Nat.le_of_ble_eq_true rfl) hpx
  · intro r σ1 t H1 locs1 ht hvm hpost hB hz hk hS1
    obtain ⟨hP1, hD1⟩ := hB
    rw [ht] at hP1
    obtain ⟨hP, hD⟩ := Jn.left (wf := fun u : Mem => W5 k ad u) hP hD σ1 H1 hP1 hD1 hz hk hFc
    try dsimp only at hpost
    refine lv_if_eq (tgt := 14) hx hb dL_approve_7 (by decide) (fun c9 => ?_) (fun c9 => ?_)
    · refine lv_lconst (v := 0) hx hb dL_approve_14 (by decide) ?_
      refine va_putN (D := D) (ci := 10) (v := .long 0) (ty := .long) (C := RX6) (T := TX6) (N := 2) hx hb hts hin_X6 tyX6 tyX6_ok nmX6 hown hK hP hD hS1 45 rfl rfl 0 (by decide) (va_Nw.use rfl (GG.nf hG (q := (RL, 13, "MeetjoinLaw$Out", "n", "J", "MeetjoinLaw")) 0 rfl)) (fun _ h9 => h9) rfl (by decide +kernel) rfl rfl (Nat.le_of_ble_eq_true rfl) dL_approve_15 (fun H locs hP hD hS => ?_)
      refine lv_goto (tgt := 25) hx hb dL_approve_18 (by decide) ?_
      refine lv_iconst (v := 0) hx hb dL_approve_25 (by decide) ?_
      exact hret 0 (σ1, 0, v) _ _ _ _ _ _ dL_approve_26 hP hD hS (Nat.le_of_ble_eq_true rfl) (Nat.le_of_ble_eq_true rfl) (hpost.2 c9)
    · refine lv_lconst (v := 1) hx hb dL_approve_10 (by decide) ?_
      refine lv_goto (tgt := 15) hx hb dL_approve_11 (by decide) ?_
      refine va_putN (D := D) (ci := 10) (v := .long 1) (ty := .long) (C := RX6) (T := TX6) (N := 2) hx hb hts hin_X6 tyX6 tyX6_ok nmX6 hown hK hP hD hS1 45 rfl rfl 0 (by decide) (va_Nw.use rfl (GG.nf hG (q := (RL, 13, "MeetjoinLaw$Out", "n", "J", "MeetjoinLaw")) 0 rfl)) (fun _ h9 => h9) rfl (by decide +kernel) rfl rfl (Nat.le_of_ble_eq_true rfl) dL_approve_15 (fun H locs hP hD hS => ?_)
      refine lv_goto (tgt := 25) hx hb dL_approve_18 (by decide) ?_
      refine lv_iconst (v := 0) hx hb dL_approve_25 (by decide) ?_
      exact hret 0 (σ1, 1, v) _ _ _ _ _ _ dL_approve_26 hP hD hS (Nat.le_of_ble_eq_true rfl) (Nat.le_of_ble_eq_true rfl) (hpost.1 c9)
def q_L_withdraw (post : Int32 → Mem → Int64 → Value → Prop) (p1 : Int32) (p2 : Int32) (n : Int64) (v : Value) (σ : Mem) : Prop := q_X5_withdraw (fun (r : Int32) (σ' : Mem) => ((r ≠ 0 → post 0 σ' 1 v) ∧ (r = 0 → post 0 σ' 0 v))) (fun (E : String) (σ' : Mem) => (E = eIO ∧ post 1 σ' n v)) p1 p2 σ
abbrev rm_L_withdraw : Room := { frames := 20, cells := 1, slots := 6, locals := 959 }
abbrev wq_L_withdraw : List Cond := Cond.codeWith yL_withdraw cL_withdraw 5 (some .int) [(0, 18, 21, 27)] :: wLAW
set_option maxHeartbeats 4000000 in
set_option maxRecDepth 100000 in
theorem c_L_withdraw (l : Launch) (hflag : l.stackTraces = false) (D : va_G) (k ad : Nat → Nat) (o : Nat) {sz : Nat} {σ : Mem} {n : Int64} {v : Value} {p1 : Int32} {p2 : Int32} {post : Int32 → Mem → Int64 → Value → Prop} (hp : q_L_withdraw post p1 p2 n v σ) : Met l yL_withdraw wq_L_withdraw rm_L_withdraw (va_Pc [.ref (ad 0), .int p1, .int p2, .ref o] (PwL D k (W5 k ad σ ++ WO o n v) sz)) (va_Qi (fun r (u : Mem × Int64 × Value) => post r u.1 u.2.1 u.2.2) (fun u => Bw D (W5 k ad σ ++ WO o n v) sz (W5 k ad u.1 ++ WO o u.2.1 u.2.2)) (va_A (W5 k ad σ ++ WO o n v) sz)) 1 6 (va_A (W5 k ad σ ++ WO o n v) sz) := by
  refine fw_L (S := Mem × Int64 × Value) (wf := fun u : Mem × Int64 × Value => W5 k ad u.1 ++ WO o u.2.1 u.2.2) (post := fun r u => post r u.1 u.2.1 u.2.2) (by decide) rfl (Nat.le_of_ble_eq_true rfl) ?_
  intro p e s m args below meth c A Q ls hC hN htb hP hD hl hret
  obtain ⟨⟨hx, hb, hml, hown, hts⟩, hG, hA⟩ := id hC
  have hK := hG.1
  have hS : va_S A s.heap s.heap [] := va_S.rf
  have hl : lv_has ls 5 [(0, .ref (ad 0)), (1, .int p1), (2, .int p2), (3, .ref o)] := hl
  have hown : s.vm.findClass RL = some m.cls := hown
  have hin_X6 : ∀ w ∈ u_ws RX6 TX6 2, w ∈ wq_L_withdraw := fun w h => List.mem_cons_of_mem _ (iUB_X6 w h)
  unfold q_L_withdraw at hp
  refine lv_aload_n hx hb dL_withdraw_0 rfl (lv_at hl 3 rfl) ?_
  refine lv_aload_n hx hb dL_withdraw_1 rfl (lv_at hl 0 rfl) ?_
  refine lv_iload_n hx hb dL_withdraw_2 rfl (lv_at hl 1 rfl) ?_
  refine lv_iload_n hx hb dL_withdraw_3 rfl (lv_at hl 2 rfl) ?_
  have hFc := va_free0 (D_left hD) hS hA
  refine vx_calli (vx_runV (g := F0 m 4 ls ([.int p2, .int p1, .ref (ad 0), .ref o])) (As := [.int p1, .int p2]) (rest := [.ref o]) hC.1 (c_X5_withdraw l hflag D k ad hp) (cwV 2 hts (gB_V B_31 B_32 B_33 (iB_A _ A_25) (iB_A _ A_242)) rfl rfl rfl (by decide +kernel) ⟨Nat.le_of_ble_eq_true rfl, Nat.le_of_ble_eq_true rfl⟩) ⟨Pw_blind, va_recv hK hP (ci := 9) (q0 := 0) rfl rfl, fw_pre hC (P_left hP) (D_left hD) hS⟩ rfl rfl hl.1 rfl (lv_room (Nat.le_of_ble_eq_true rfl)) dL_withdraw_4 ⟨Nat.le_of_ble_eq_true rfl, Nat.le_of_ble_eq_true rfl⟩) hS (fun q _ h => hFc q h) hFc (fun q _ h => hFc q h) ?_ ?_
  · intro E ce q9 u t H1 locs1 ht hvm hpx hB hz hk hS1 hcell hcv hcl
    obtain ⟨E1, σ1⟩ := u
    obtain ⟨hE, hP1, hD1⟩ := hB
    subst hE
    rw [ht] at hP1
    obtain ⟨hP2, hD2⟩ := Jn.left (wf := fun u : Mem => W5 k ad u) hP hD σ1 H1 hP1 hD1 hz hk hFc
    try dsimp only at hpx
    obtain ⟨rfl, hpx⟩ := hpx
    refine vx_catch (name := eIO) (E := eIO) hown [] (tbE (0, 18, 21, 27)) [] htb (fun z hz => by simp at hz) rfl (by decide) (hts _ (List.mem_cons_of_mem _ B_6)) (va_Nw.use rfl (GG.nc hG (q := ("java/lang/IndexOutOfBoundsException", "java/lang/IndexOutOfBoundsException")) 6 rfl)) hcell hcv hcl ?_
    refine lv_astore (lv' := [(4, .ref q9), (0, .ref (ad 0)), (1, .int p1), (2, .int p2), (3, .ref o)]) hx hb dL_withdraw_21 hl (by decide) rfl (fun ls hl => ?_)
    refine lv_iconst (v := 1) hx hb dL_withdraw_23 (by decide) ?_
    exact hret 1 (σ1, n, v) _ _ _ _ _ _ dL_withdraw_24 hP2 hD2 hS1 (Nat.le_of_ble_eq_true rfl) (Nat.le_of_ble_eq_true rfl) hpx
  · intro r σ1 t H1 locs1 ht hvm hpost hB hz hk hS1
    obtain ⟨hP1, hD1⟩ := hB
    rw [ht] at hP1
    obtain ⟨hP, hD⟩ := Jn.left (wf := fun u : Mem => W5 k ad u) hP hD σ1 H1 hP1 hD1 hz hk hFc
    try dsimp only at hpost
    refine lv_if_eq (tgt := 14) hx hb dL_withdraw_7 (by decide) (fun c9 => ?_) (fun c9 => ?_)
    · refine lv_lconst (v := 0) hx hb dL_withdraw_14 (by decide) ?_
      refine va_putN (D := D) (ci := 10) (v := .long 0) (ty := .long) (C := RX6) (T := TX6) (N := 2) hx hb hts hin_X6 tyX6 tyX6_ok nmX6 hown hK hP hD hS1 45 rfl rfl 0 (by decide) (va_Nw.use rfl (GG.nf hG (q := (RL, 13, "MeetjoinLaw$Out", "n", "J", "MeetjoinLaw")) 0 rfl)) (fun _ h9 => h9) rfl (by decide +kernel) rfl rfl (Nat.le_of_ble_eq_true rfl) dL_withdraw_15 (fun H locs hP hD hS => ?_)
      refine lv_goto (tgt := 25) hx hb dL_withdraw_18 (by decide) ?_
      refine lv_iconst (v := 0) hx hb dL_withdraw_25 (by decide) ?_
      exact hret 0 (σ1, 0, v) _ _ _ _ _ _ dL_withdraw_26 hP hD hS (Nat.le_of_ble_eq_true rfl) (Nat.le_of_ble_eq_true rfl) (hpost.2 c9)
    · refine lv_lconst (v := 1) hx hb dL_withdraw_10 (by decide) ?_
      refine lv_goto (tgt := 15) hx hb dL_withdraw_11 (by decide) ?_
      refine va_putN (D := D) (ci := 10) (v := .long 1) (ty := .long) (C := RX6) (T := TX6) (N := 2) hx hb hts hin_X6 tyX6 tyX6_ok nmX6 hown hK hP hD hS1 45 rfl rfl 0 (by decide) (va_Nw.use rfl (GG.nf hG (q := (RL, 13, "MeetjoinLaw$Out", "n", "J", "MeetjoinLaw")) 0 rfl)) (fun _ h9 => h9) rfl (by decide +kernel) rfl rfl (Nat.le_of_ble_eq_true rfl) dL_withdraw_15 (fun H locs hP hD hS => ?_)
      refine lv_goto (tgt := 25) hx hb dL_withdraw_18 (by decide) ?_
      refine lv_iconst (v := 0) hx hb dL_withdraw_25 (by decide) ?_
      exact hret 0 (σ1, 1, v) _ _ _ _ _ _ dL_withdraw_26 hP hD hS (Nat.le_of_ble_eq_true rfl) (Nat.le_of_ble_eq_true rfl) (hpost.1 c9)
def q_L_weight (post : Int32 → Mem → Int64 → Value → Prop) (p1 : Int32) (p2 : Int32) (n : Int64) (v : Value) (σ : Mem) : Prop := q_X5_weight (fun (r : Int32) (σ' : Mem) => post 0 σ' r.toInt64 v) (fun (E : String) (σ' : Mem) => (E = eIO ∧ post 1 σ' n v) ∨ (E = eIA ∧ post 2 σ' n v)) p1 p2 σ
abbrev rm_L_weight : Room := { frames := 20, cells := 1, slots := 6, locals := 960 }
abbrev wq_L_weight : List Cond := Cond.codeWith yL_weight cL_weight 5 (some .int) [(0, 11, 14, 27), (0, 11, 18, 19)] :: wLAW
set_option maxHeartbeats 4000000 in
set_option maxRecDepth 100000 in
theorem c_L_weight (l : Launch) (hflag : l.stackTraces = false) (D : va_G) (k ad : Nat → Nat) (o : Nat) {sz : Nat} {σ : Mem} {n : Int64} {v : Value} {p1 : Int32} {p2 : Int32} {post : Int32 → Mem → Int64 → Value → Prop} (hp : q_L_weight post p1 p2 n v σ) : Met l yL_weight wq_L_weight rm_L_weight (va_Pc [.ref (ad 0), .int p1, .int p2, .ref o] (PwL D k (W5 k ad σ ++ WO o n v) sz)) (va_Qi (fun r (u : Mem × Int64 × Value) => post r u.1 u.2.1 u.2.2) (fun u => Bw D (W5 k ad σ ++ WO o n v) sz (W5 k ad u.1 ++ WO o u.2.1 u.2.2)) (va_A (W5 k ad σ ++ WO o n v) sz)) 1 6 (va_A (W5 k ad σ ++ WO o n v) sz) := by
  refine fw_L (S := Mem × Int64 × Value) (wf := fun u : Mem × Int64 × Value => W5 k ad u.1 ++ WO o u.2.1 u.2.2) (post := fun r u => post r u.1 u.2.1 u.2.2) (by decide) rfl (Nat.le_of_ble_eq_true rfl) ?_
  intro p e s m args below meth c A Q ls hC hN htb hP hD hl hret
  obtain ⟨⟨hx, hb, hml, hown, hts⟩, hG, hA⟩ := id hC
  have hK := hG.1
  have hS : va_S A s.heap s.heap [] := va_S.rf
  have hl : lv_has ls 5 [(0, .ref (ad 0)), (1, .int p1), (2, .int p2), (3, .ref o)] := hl
  have hown : s.vm.findClass RL = some m.cls := hown
  have hin_X6 : ∀ w ∈ u_ws RX6 TX6 2, w ∈ wq_L_weight := fun w h => List.mem_cons_of_mem _ (iUB_X6 w h)
  unfold q_L_weight at hp
  refine lv_aload_n hx hb dL_weight_0 rfl (lv_at hl 3 rfl) ?_
  refine lv_aload_n hx hb dL_weight_1 rfl (lv_at hl 0 rfl) ?_
  refine lv_iload_n hx hb dL_weight_2 rfl (lv_at hl 1 rfl) ?_
  refine lv_iload_n hx hb dL_weight_3 rfl (lv_at hl 2 rfl) ?_
  have hFc := va_free0 (D_left hD) hS hA
  refine vx_calli (vx_runV (g := F0 m 4 ls ([.int p2, .int p1, .ref (ad 0), .ref o])) (As := [.int p1, .int p2]) (rest := [.ref o]) hC.1 (c_X5_weight l hflag D k ad hp) (cwV 2 hts (gB_V B_35 B_36 B_37 (iB_A _ A_25) (iB_A _ A_244)) rfl rfl rfl (by decide +kernel) ⟨Nat.le_of_ble_eq_true rfl, Nat.le_of_ble_eq_true rfl⟩) ⟨Pw_blind, va_recv hK hP (ci := 9) (q0 := 0) rfl rfl, fw_pre hC (P_left hP) (D_left hD) hS⟩ rfl rfl hl.1 rfl (lv_room (Nat.le_of_ble_eq_true rfl)) dL_weight_4 ⟨Nat.le_of_ble_eq_true rfl, Nat.le_of_ble_eq_true rfl⟩) hS (fun q _ h => hFc q h) hFc (fun q _ h => hFc q h) ?_ ?_
  · intro E ce q9 u t H1 locs1 ht hvm hpx hB hz hk hS1 hcell hcv hcl
    obtain ⟨E1, σ1⟩ := u
    obtain ⟨hE, hP1, hD1⟩ := hB
    subst hE
    rw [ht] at hP1
    obtain ⟨hP2, hD2⟩ := Jn.left (wf := fun u : Mem => W5 k ad u) hP hD σ1 H1 hP1 hD1 hz hk hFc
    try dsimp only at hpx
    rcases hpx with ⟨rfl, hpx⟩ | ⟨rfl, hpx⟩
    · refine vx_catch (name := eIO) (E := eIO) hown [] (tbE (0, 11, 14, 27)) [tbE (0, 11, 18, 19)] htb (fun z hz => by simp at hz) rfl (by decide) (hts _ (List.mem_cons_of_mem _ B_6)) (va_Nw.use rfl (GG.nc hG (q := ("java/lang/IndexOutOfBoundsException", "java/lang/IndexOutOfBoundsException")) 6 rfl)) hcell hcv hcl ?_
      refine lv_astore (lv' := [(4, .ref q9), (0, .ref (ad 0)), (1, .int p1), (2, .int p2), (3, .ref o)]) hx hb dL_weight_14 hl (by decide) rfl (fun ls hl => ?_)
      refine lv_iconst (v := 1) hx hb dL_weight_16 (by decide) ?_
      exact hret 1 (σ1, n, v) _ _ _ _ _ _ dL_weight_17 hP2 hD2 hS1 (Nat.le_of_ble_eq_true rfl) (Nat.le_of_ble_eq_true rfl) hpx
    · refine vx_catch (name := eIA) (E := eIA) hown [tbE (0, 11, 14, 27)] (tbE (0, 11, 18, 19)) [] htb (fun z hz => by obtain rfl := List.mem_singleton.mp hz; exact Or.inr ⟨by decide, eIO, (hts _ (List.mem_cons_of_mem _ B_6)), hN.2.1⟩) rfl (by decide) (hts _ (List.mem_cons_of_mem _ B_0)) (va_Nw.use rfl (GG.nc hG (q := ("java/lang/IllegalArgumentException", "java/lang/IllegalArgumentException")) 4 rfl)) hcell hcv hcl ?_
      refine lv_astore (lv' := [(4, .ref q9), (0, .ref (ad 0)), (1, .int p1), (2, .int p2), (3, .ref o)]) hx hb dL_weight_18 hl (by decide) rfl (fun ls hl => ?_)
      refine lv_iconst (v := 2) hx hb dL_weight_20 (by decide) ?_
      exact hret 2 (σ1, n, v) _ _ _ _ _ _ dL_weight_21 hP2 hD2 hS1 (Nat.le_of_ble_eq_true rfl) (Nat.le_of_ble_eq_true rfl) hpx
  · intro r σ1 t H1 locs1 ht hvm hpost hB hz hk hS1
    obtain ⟨hP1, hD1⟩ := hB
    rw [ht] at hP1
    obtain ⟨hP, hD⟩ := Jn.left (wf := fun u : Mem => W5 k ad u) hP hD σ1 H1 hP1 hD1 hz hk hFc
    try dsimp only at hpost
    refine lv_i2l (v := r.toInt64) hx hb dL_weight_7 rfl ?_
    refine va_putN (D := D) (ci := 10) (v := .long r.toInt64) (ty := .long) (C := RX6) (T := TX6) (N := 2) hx hb hts hin_X6 tyX6 tyX6_ok nmX6 hown hK hP hD hS1 45 rfl rfl 0 (by decide) (va_Nw.use rfl (GG.nf hG (q := (RL, 13, "MeetjoinLaw$Out", "n", "J", "MeetjoinLaw")) 0 rfl)) (fun _ h9 => h9) rfl (by decide +kernel) rfl rfl (Nat.le_of_ble_eq_true rfl) dL_weight_8 (fun H locs hP hD hS => ?_)
    refine lv_goto (tgt := 22) hx hb dL_weight_11 (by decide) ?_
    refine lv_iconst (v := 0) hx hb dL_weight_22 (by decide) ?_
    exact hret 0 (σ1, r.toInt64, v) _ _ _ _ _ _ dL_weight_23 hP hD hS (Nat.le_of_ble_eq_true rfl) (Nat.le_of_ble_eq_true rfl) hpost
def q_L_commit (post : Int32 → Mem → Int64 → Value → Prop) (n : Int64) (v : Value) (σ : Mem) : Prop := q_X5_commit (fun (r : Int32) (σ' : Mem) => post 0 σ' r.toInt64 v) (fun (E : String) (σ' : Mem) => (E = eIS ∧ post 1 σ' n v)) σ
abbrev rm_L_commit : Room := { frames := 7, cells := 1, slots := 6, locals := 250 }
abbrev wq_L_commit : List Cond := Cond.codeWith yL_commit cL_commit 3 (some .int) [(0, 9, 12, 21)] :: wLAW
set_option maxHeartbeats 4000000 in
set_option maxRecDepth 100000 in
theorem c_L_commit (l : Launch) (hflag : l.stackTraces = false) (D : va_G) (k ad : Nat → Nat) (o : Nat) {sz : Nat} {σ : Mem} {n : Int64} {v : Value}  {post : Int32 → Mem → Int64 → Value → Prop} (hp : q_L_commit post n v σ) : Met l yL_commit wq_L_commit rm_L_commit (va_Pc [.ref (ad 0), .ref o] (PwL D k (W5 k ad σ ++ WO o n v) sz)) (va_Qi (fun r (u : Mem × Int64 × Value) => post r u.1 u.2.1 u.2.2) (fun u => Bw D (W5 k ad σ ++ WO o n v) sz (W5 k ad u.1 ++ WO o u.2.1 u.2.2)) (va_A (W5 k ad σ ++ WO o n v) sz)) 1 6 (va_A (W5 k ad σ ++ WO o n v) sz) := by
  refine fw_L (S := Mem × Int64 × Value) (wf := fun u : Mem × Int64 × Value => W5 k ad u.1 ++ WO o u.2.1 u.2.2) (post := fun r u => post r u.1 u.2.1 u.2.2) (by decide) rfl (Nat.le_of_ble_eq_true rfl) ?_
  intro p e s m args below meth c A Q ls hC hN htb hP hD hl hret
  obtain ⟨⟨hx, hb, hml, hown, hts⟩, hG, hA⟩ := id hC
  have hK := hG.1
  have hS : va_S A s.heap s.heap [] := va_S.rf
  have hl : lv_has ls 3 [(0, .ref (ad 0)), (1, .ref o)] := hl
  have hown : s.vm.findClass RL = some m.cls := hown
  have hin_X6 : ∀ w ∈ u_ws RX6 TX6 2, w ∈ wq_L_commit := fun w h => List.mem_cons_of_mem _ (iUB_X6 w h)
  unfold q_L_commit at hp
  refine lv_aload_n hx hb dL_commit_0 rfl (lv_at hl 1 rfl) ?_
  refine lv_aload_n hx hb dL_commit_1 rfl (lv_at hl 0 rfl) ?_
  have hFc := va_free0 (D_left hD) hS hA
  refine vx_calli (vx_runV (g := F0 m 2 ls ([.ref (ad 0), .ref o])) (As := []) (rest := [.ref o]) hC.1 (c_X5_commit l hflag D k ad hp) (cwV 0 hts (gB_V B_39 B_40 B_41 (iB_A _ A_25) (iB_A _ A_245)) rfl rfl rfl (by decide +kernel) ⟨Nat.le_of_ble_eq_true rfl, Nat.le_of_ble_eq_true rfl⟩) ⟨Pw_blind, va_recv hK hP (ci := 9) (q0 := 0) rfl rfl, fw_pre hC (P_left hP) (D_left hD) hS⟩ rfl rfl hl.1 rfl (lv_room (Nat.le_of_ble_eq_true rfl)) dL_commit_2 ⟨Nat.le_of_ble_eq_true rfl, Nat.le_of_ble_eq_true rfl⟩) hS (fun q _ h => hFc q h) hFc (fun q _ h => hFc q h) ?_ ?_
  · intro E ce q9 u t H1 locs1 ht hvm hpx hB hz hk hS1 hcell hcv hcl
    obtain ⟨E1, σ1⟩ := u
    obtain ⟨hE, hP1, hD1⟩ := hB
    subst hE
    rw [ht] at hP1
    obtain ⟨hP2, hD2⟩ := Jn.left (wf := fun u : Mem => W5 k ad u) hP hD σ1 H1 hP1 hD1 hz hk hFc
    try dsimp only at hpx
    obtain ⟨rfl, hpx⟩ := hpx
    refine vx_catch (name := eIS) (E := eIS) hown [] (tbE (0, 9, 12, 21)) [] htb (fun z hz => by simp at hz) rfl (by decide) (hts _ (List.mem_cons_of_mem _ B_1)) (va_Nw.use rfl (GG.nc hG (q := ("java/lang/IllegalStateException", "java/lang/IllegalStateException")) 5 rfl)) hcell hcv hcl ?_
    refine lv_astore_n (lv' := [(2, .ref q9), (0, .ref (ad 0)), (1, .ref o)]) hx hb dL_commit_12 rfl hl (by decide) rfl (fun ls hl => ?_)
    refine lv_iconst (v := 1) hx hb dL_commit_13 (by decide) ?_
    exact hret 1 (σ1, n, v) _ _ _ _ _ _ dL_commit_14 hP2 hD2 hS1 (Nat.le_of_ble_eq_true rfl) (Nat.le_of_ble_eq_true rfl) hpx
  · intro r σ1 t H1 locs1 ht hvm hpost hB hz hk hS1
    obtain ⟨hP1, hD1⟩ := hB
    rw [ht] at hP1
    obtain ⟨hP, hD⟩ := Jn.left (wf := fun u : Mem => W5 k ad u) hP hD σ1 H1 hP1 hD1 hz hk hFc
    try dsimp only at hpost
    refine lv_i2l (v := r.toInt64) hx hb dL_commit_5 rfl ?_
    refine va_putN (D := D) (ci := 10) (v := .long r.toInt64) (ty := .long) (C := RX6) (T := TX6) (N := 2) hx hb hts hin_X6 tyX6 tyX6_ok nmX6 hown hK hP hD hS1 45 rfl rfl 0 (by decide) (va_Nw.use rfl (GG.nf hG (q := (RL, 13, "MeetjoinLaw$Out", "n", "J", "MeetjoinLaw")) 0 rfl)) (fun _ h9 => h9) rfl (by decide +kernel) rfl rfl (Nat.le_of_ble_eq_true rfl) dL_commit_6 (fun H locs hP hD hS => ?_)
    refine lv_goto (tgt := 15) hx hb dL_commit_9 (by decide) ?_
    refine lv_iconst (v := 0) hx hb dL_commit_15 (by decide) ?_
    exact hret 0 (σ1, r.toInt64, v) _ _ _ _ _ _ dL_commit_16 hP hD hS (Nat.le_of_ble_eq_true rfl) (Nat.le_of_ble_eq_true rfl) hpost
def q_L_wave (post : Int32 → Mem → Int64 → Value → Prop) (p1 : Int32) (p2 : Int32) (n : Int64) (v : Value) (σ : Mem) : Prop := q_X5_wave (fun (r : Int32) (σ' : Mem) => post 0 σ' r.toInt64 v) (fun (E : String) (σ' : Mem) => (E = eIO ∧ post 1 σ' n v) ∨ (E = eIA ∧ post 2 σ' n v)) p1 p2 σ
abbrev rm_L_wave : Room := { frames := 7, cells := 1, slots := 6, locals := 254 }
abbrev wq_L_wave : List Cond := Cond.codeWith yL_wave cL_wave 5 (some .int) [(0, 11, 14, 27), (0, 11, 18, 19)] :: wLAW
set_option maxHeartbeats 4000000 in
set_option maxRecDepth 100000 in
theorem c_L_wave (l : Launch) (hflag : l.stackTraces = false) (D : va_G) (k ad : Nat → Nat) (o : Nat) {sz : Nat} {σ : Mem} {n : Int64} {v : Value} {p1 : Int32} {p2 : Int32} {post : Int32 → Mem → Int64 → Value → Prop} (hp : q_L_wave post p1 p2 n v σ) : Met l yL_wave wq_L_wave rm_L_wave (va_Pc [.ref (ad 0), .int p1, .int p2, .ref o] (PwL D k (W5 k ad σ ++ WO o n v) sz)) (va_Qi (fun r (u : Mem × Int64 × Value) => post r u.1 u.2.1 u.2.2) (fun u => Bw D (W5 k ad σ ++ WO o n v) sz (W5 k ad u.1 ++ WO o u.2.1 u.2.2)) (va_A (W5 k ad σ ++ WO o n v) sz)) 1 6 (va_A (W5 k ad σ ++ WO o n v) sz) := by
  refine fw_L (S := Mem × Int64 × Value) (wf := fun u : Mem × Int64 × Value => W5 k ad u.1 ++ WO o u.2.1 u.2.2) (post := fun r u => post r u.1 u.2.1 u.2.2) (by decide) rfl (Nat.le_of_ble_eq_true rfl) ?_
  intro p e s m args below meth c A Q ls hC hN htb hP hD hl hret
  obtain ⟨⟨hx, hb, hml, hown, hts⟩, hG, hA⟩ := id hC
  have hK := hG.1
  have hS : va_S A s.heap s.heap [] := va_S.rf
  have hl : lv_has ls 5 [(0, .ref (ad 0)), (1, .int p1), (2, .int p2), (3, .ref o)] := hl
  have hown : s.vm.findClass RL = some m.cls := hown
  have hin_X6 : ∀ w ∈ u_ws RX6 TX6 2, w ∈ wq_L_wave := fun w h => List.mem_cons_of_mem _ (iUB_X6 w h)
  unfold q_L_wave at hp
  refine lv_aload_n hx hb dL_wave_0 rfl (lv_at hl 3 rfl) ?_
  refine lv_aload_n hx hb dL_wave_1 rfl (lv_at hl 0 rfl) ?_
  refine lv_iload_n hx hb dL_wave_2 rfl (lv_at hl 1 rfl) ?_
  refine lv_iload_n hx hb dL_wave_3 rfl (lv_at hl 2 rfl) ?_
  have hFc := va_free0 (D_left hD) hS hA
  refine vx_calli (vx_runV (g := F0 m 4 ls ([.int p2, .int p1, .ref (ad 0), .ref o])) (As := [.int p1, .int p2]) (rest := [.ref o]) hC.1 (c_X5_wave l hflag D k ad hp) (cwV 2 hts (gB_V B_43 B_44 B_45 (iB_A _ A_25) (iB_A _ A_261)) rfl rfl rfl (by decide +kernel) ⟨Nat.le_of_ble_eq_true rfl, Nat.le_of_ble_eq_true rfl⟩) ⟨Pw_blind, va_recv hK hP (ci := 9) (q0 := 0) rfl rfl, fw_pre hC (P_left hP) (D_left hD) hS⟩ rfl rfl hl.1 rfl (lv_room (Nat.le_of_ble_eq_true rfl)) dL_wave_4 ⟨Nat.le_of_ble_eq_true rfl, Nat.le_of_ble_eq_true rfl⟩) hS (fun q _ h => hFc q h) hFc (fun q _ h => hFc q h) ?_ ?_
  · intro E ce q9 u t H1 locs1 ht hvm hpx hB hz hk hS1 hcell hcv hcl
    obtain ⟨E1, σ1⟩ := u
    obtain ⟨hE, hP1, hD1⟩ := hB
    subst hE
    rw [ht] at hP1
    obtain ⟨hP2, hD2⟩ := Jn.left (wf := fun u : Mem => W5 k ad u) hP hD σ1 H1 hP1 hD1 hz hk hFc
    try dsimp only at hpx
    rcases hpx with ⟨rfl, hpx⟩ | ⟨rfl, hpx⟩
    · refine vx_catch (name := eIO) (E := eIO) hown [] (tbE (0, 11, 14, 27)) [tbE (0, 11, 18, 19)] htb (fun z hz => by simp at hz) rfl (by decide) (hts _ (List.mem_cons_of_mem _ B_6)) (va_Nw.use rfl (GG.nc hG (q := ("java/lang/IndexOutOfBoundsException", "java/lang/IndexOutOfBoundsException")) 6 rfl)) hcell hcv hcl ?_
      refine lv_astore (lv' := [(4, .ref q9), (0, .ref (ad 0)), (1, .int p1), (2, .int p2), (3, .ref o)]) hx hb dL_wave_14 hl (by decide) rfl (fun ls hl => ?_)
      refine lv_iconst (v := 1) hx hb dL_wave_16 (by decide) ?_
      exact hret 1 (σ1, n, v) _ _ _ _ _ _ dL_wave_17 hP2 hD2 hS1 (Nat.le_of_ble_eq_true rfl) (Nat.le_of_ble_eq_true rfl) hpx
    · refine vx_catch (name := eIA) (E := eIA) hown [tbE (0, 11, 14, 27)] (tbE (0, 11, 18, 19)) [] htb (fun z hz => by obtain rfl := List.mem_singleton.mp hz; exact Or.inr ⟨by decide, eIO, (hts _ (List.mem_cons_of_mem _ B_6)), hN.2.1⟩) rfl (by decide) (hts _ (List.mem_cons_of_mem _ B_0)) (va_Nw.use rfl (GG.nc hG (q := ("java/lang/IllegalArgumentException", "java/lang/IllegalArgumentException")) 4 rfl)) hcell hcv hcl ?_
      refine lv_astore (lv' := [(4, .ref q9), (0, .ref (ad 0)), (1, .int p1), (2, .int p2), (3, .ref o)]) hx hb dL_wave_18 hl (by decide) rfl (fun ls hl => ?_)
      refine lv_iconst (v := 2) hx hb dL_wave_20 (by decide) ?_
      exact hret 2 (σ1, n, v) _ _ _ _ _ _ dL_wave_21 hP2 hD2 hS1 (Nat.le_of_ble_eq_true rfl) (Nat.le_of_ble_eq_true rfl) hpx
  · intro r σ1 t H1 locs1 ht hvm hpost hB hz hk hS1
    obtain ⟨hP1, hD1⟩ := hB
    rw [ht] at hP1
    obtain ⟨hP, hD⟩ := Jn.left (wf := fun u : Mem => W5 k ad u) hP hD σ1 H1 hP1 hD1 hz hk hFc
    try dsimp only at hpost
    refine lv_i2l (v := r.toInt64) hx hb dL_wave_7 rfl ?_
    refine va_putN (D := D) (ci := 10) (v := .long r.toInt64) (ty := .long) (C := RX6) (T := TX6) (N := 2) hx hb hts hin_X6 tyX6 tyX6_ok nmX6 hown hK hP hD hS1 45 rfl rfl 0 (by decide) (va_Nw.use rfl (GG.nf hG (q := (RL, 13, "MeetjoinLaw$Out", "n", "J", "MeetjoinLaw")) 0 rfl)) (fun _ h9 => h9) rfl (by decide +kernel) rfl rfl (Nat.le_of_ble_eq_true rfl) dL_wave_8 (fun H locs hP hD hS => ?_)
    refine lv_goto (tgt := 22) hx hb dL_wave_11 (by decide) ?_
    refine lv_iconst (v := 0) hx hb dL_wave_22 (by decide) ?_
    exact hret 0 (σ1, r.toInt64, v) _ _ _ _ _ _ dL_wave_23 hP hD hS (Nat.le_of_ble_eq_true rfl) (Nat.le_of_ble_eq_true rfl) hpost
def q_L_patch (post : Int32 → Mem → Int64 → Value → Prop) (p1 : Int32) (p2 : Int32) (p3 : Int32) (n : Int64) (v : Value) (σ : Mem) : Prop := q_X5_patch (fun (r : Int32) (σ' : Mem) => post 0 σ' r.toInt64 v) (fun (E : String) (σ' : Mem) => (E = eIO ∧ post 1 σ' n v) ∨ (E = eIA ∧ post 2 σ' n v)) p1 p2 p3 σ
abbrev rm_L_patch : Room := { frames := 7, cells := 1, slots := 6, locals := 254 }
abbrev wq_L_patch : List Cond := Cond.codeWith yL_patch cL_patch 6 (some .int) [(0, 13, 16, 27), (0, 13, 20, 19)] :: wLAW
set_option maxHeartbeats 4000000 in
set_option maxRecDepth 100000 in
theorem c_L_patch (l : Launch) (hflag : l.stackTraces = false) (D : va_G) (k ad : Nat → Nat) (o : Nat) {sz : Nat} {σ : Mem} {n : Int64} {v : Value} {p1 : Int32} {p2 : Int32} {p3 : Int32} {post : Int32 → Mem → Int64 → Value → Prop} (hp : q_L_patch post p1 p2 p3 n v σ) : Met l yL_patch wq_L_patch rm_L_patch (va_Pc [.ref (ad 0), .int p1, .int p2, .int p3, .ref o] (PwL D k (W5 k ad σ ++ WO o n v) sz)) (va_Qi (fun r (u : Mem × Int64 × Value) => post r u.1 u.2.1 u.2.2) (fun u => Bw D (W5 k ad σ ++ WO o n v) sz (W5 k ad u.1 ++ WO o u.2.1 u.2.2)) (va_A (W5 k ad σ ++ WO o n v) sz)) 1 6 (va_A (W5 k ad σ ++ WO o n v) sz) := by
  refine fw_L (S := Mem × Int64 × Value) (wf := fun u : Mem × Int64 × Value => W5 k ad u.1 ++ WO o u.2.1 u.2.2) (post := fun r u => post r u.1 u.2.1 u.2.2) (by decide) rfl (Nat.le_of_ble_eq_true rfl) ?_
  intro p e s m args below meth c A Q ls hC hN htb hP hD hl hret
  obtain ⟨⟨hx, hb, hml, hown, hts⟩, hG, hA⟩ := id hC
  have hK := hG.1
  have hS : va_S A s.heap s.heap [] := va_S.rf
  have hl : lv_has ls 6 [(0, .ref (ad 0)), (1, .int p1), (2, .int p2), (3, .int p3), (4, .ref o)] := hl
  have hown : s.vm.findClass RL = some m.cls := hown
  have hin_X6 : ∀ w ∈ u_ws RX6 TX6 2, w ∈ wq_L_patch := fun w h => List.mem_cons_of_mem _ (iUB_X6 w h)
  unfold q_L_patch at hp
  refine lv_aload hx hb dL_patch_0 (lv_at hl 4 rfl) ?_
  refine lv_aload_n hx hb dL_patch_2 rfl (lv_at hl 0 rfl) ?_
  refine lv_iload_n hx hb dL_patch_3 rfl (lv_at hl 1 rfl) ?_
  refine lv_iload_n hx hb dL_patch_4 rfl (lv_at hl 2 rfl) ?_
  refine lv_iload_n hx hb dL_patch_5 rfl (lv_at hl 3 rfl) ?_
  have hFc := va_free0 (D_left hD) hS hA
  refine vx_calli (vx_runV (g := F0 m 6 ls ([.int p3, .int p2, .int p1, .ref (ad 0), .ref o])) (As := [.int p1, .int p2, .int p3]) (rest := [.ref o]) hC.1 (c_X5_patch l hflag D k ad hp) (cwV 3 hts (gB_V B_47 B_48 B_49 (iB_A _ A_25) (iB_A _ A_263)) rfl rfl rfl (by decide +kernel) ⟨Nat.le_of_ble_eq_true rfl, Nat.le_of_ble_eq_true rfl⟩) ⟨Pw_blind, va_recv hK hP (ci := 9) (q0 := 0) rfl rfl, fw_pre hC (P_left hP) (D_left hD) hS⟩ rfl rfl hl.1 rfl (lv_room (Nat.le_of_ble_eq_true rfl)) dL_patch_6 ⟨Nat.le_of_ble_eq_true rfl, Nat.le_of_ble_eq_true rfl⟩) hS (fun q _ h => hFc q h) hFc (fun q _ h => hFc q h) ?_ ?_
  · intro E ce q9 u t H1 locs1 ht hvm hpx hB hz hk hS1 hcell hcv hcl
    obtain ⟨E1, σ1⟩ := u
    obtain ⟨hE, hP1, hD1⟩ := hB
    subst hE
    rw [ht] at hP1
    obtain ⟨hP2, hD2⟩ := Jn.left (wf := fun u : Mem => W5 k ad u) hP hD σ1 H1 hP1 hD1 hz hk hFc
    try dsimp only at hpx
    rcases hpx with ⟨rfl, hpx⟩ | ⟨rfl, hpx⟩
    · refine vx_catch (name := eIO) (E := eIO) hown [] (tbE (0, 13, 16, 27)) [tbE (0, 13, 20, 19)] htb (fun z hz => by simp at hz) rfl (by decide) (hts _ (List.mem_cons_of_mem _ B_6)) (va_Nw.use rfl (GG.nc hG (q := ("java/lang/IndexOutOfBoundsException", "java/lang/IndexOutOfBoundsException")) 6 rfl)) hcell hcv hcl ?_
      refine lv_astore (lv' := [(5, .ref q9), (0, .ref (ad 0)), (1, .int p1), (2, .int p2), (3, .int p3), (4, .ref o)]) hx hb dL_patch_16 hl (by decide) rfl (fun ls hl => ?_)
      refine lv_iconst (v := 1) hx hb dL_patch_18 (by decide) ?_
      exact hret 1 (σ1, n, v) _ _ _ _ _ _ dL_patch_19 hP2 hD2 hS1 (Nat.le_of_ble_eq_true rfl) (Nat.le_of_ble_eq_true rfl) hpx
    · refine vx_catch (name := eIA) (E := eIA) hown [tbE (0, 13, 16, 27)] (tbE (0, 13, 20, 19)) [] htb (fun z hz => by obtain rfl := List.mem_singleton.mp hz; exact Or.inr ⟨by decide, eIO, (hts _ (List.mem_cons_of_mem _ B_6)), hN.2.1⟩) rfl (by decide) (hts _ (List.mem_cons_of_mem _ B_0)) (va_Nw.use rfl (GG.nc hG (q := ("java/lang/IllegalArgumentException", "java/lang/IllegalArgumentException")) 4 rfl)) hcell hcv hcl ?_
      refine lv_astore (lv' := [(5, .ref q9), (0, .ref (ad 0)), (1, .int p1), (2, .int p2), (3, .int p3), (4, .ref o)]) hx hb dL_patch_20 hl (by decide) rfl (fun ls hl => ?_)
      refine lv_iconst (v := 2) hx hb dL_patch_22 (by decide) ?_
      exact hret 2 (σ1, n, v) _ _ _ _ _ _ dL_patch_23 hP2 hD2 hS1 (Nat.le_of_ble_eq_true rfl) (Nat.le_of_ble_eq_true rfl) hpx
  · intro r σ1 t H1 locs1 ht hvm hpost hB hz hk hS1
    obtain ⟨hP1, hD1⟩ := hB
    rw [ht] at hP1
    obtain ⟨hP, hD⟩ := Jn.left (wf := fun u : Mem => W5 k ad u) hP hD σ1 H1 hP1 hD1 hz hk hFc
    try dsimp only at hpost
    refine lv_i2l (v := r.toInt64) hx hb dL_patch_9 rfl ?_
    refine va_putN (D := D) (ci := 10) (v := .long r.toInt64) (ty := .long) (C := RX6) (T := TX6) (N := 2) hx hb hts hin_X6 tyX6 tyX6_ok nmX6 hown hK hP hD hS1 45 rfl rfl 0 (by decide) (va_Nw.use rfl (GG.nf hG (q := (RL, 13, "MeetjoinLaw$Out", "n", "J", "MeetjoinLaw")) 0 rfl)) (fun _ h9 => h9) rfl (by decide +kernel) rfl rfl (Nat.le_of_ble_eq_true rfl) dL_patch_10 (fun H locs hP hD hS => ?_)
    refine lv_goto (tgt := 24) hx hb dL_patch_13 (by decide) ?_
    refine lv_iconst (v := 0) hx hb dL_patch_24 (by decide) ?_
    exact hret 0 (σ1, r.toInt64, v) _ _ _ _ _ _ dL_patch_25 hP hD hS (Nat.le_of_ble_eq_true rfl) (Nat.le_of_ble_eq_true rfl) hpost
def q_L_absorb (post : Int32 → Mem → Int64 → Value → Prop) (p1 : Int32) (p2 : Int32) (n : Int64) (v : Value) (σ : Mem) : Prop := q_X5_absorb (fun (r : Int32) (σ' : Mem) => post 0 σ' r.toInt64 v) (fun (E : String) (σ' : Mem) => (E = eIO ∧ post 1 σ' n v) ∨ (E = eIS ∧ post 2 σ' n v)) p1 p2 σ
abbrev rm_L_absorb : Room := { frames := 21, cells := 1, slots := 6, locals := 986 }
abbrev wq_L_absorb : List Cond := Cond.codeWith yL_absorb cL_absorb 5 (some .int) [(0, 11, 14, 27), (0, 11, 18, 21)] :: wLAW
set_option maxHeartbeats 4000000 in
set_option maxRecDepth 100000 in
theorem c_L_absorb (l : Launch) (hflag : l.stackTraces = false) (D : va_G) (k ad : Nat → Nat) (o : Nat) {sz : Nat} {σ : Mem} {n : Int64} {v : Value} {p1 : Int32} {p2 : Int32} {post : Int32 → Mem → Int64 → Value → Prop} (hp : q_L_absorb post p1 p2 n v σ) : Met l yL_absorb wq_L_absorb rm_L_absorb (va_Pc [.ref (ad 0), .int p1, .int p2, .ref o] (PwL D k (W5 k ad σ ++ WO o n v) sz)) (va_Qi (fun r (u : Mem × Int64 × Value) => post r u.1 u.2.1 u.2.2) (fun u => Bw D (W5 k ad σ ++ WO o n v) sz (W5 k ad u.1 ++ WO o u.2.1 u.2.2)) (va_A (W5 k ad σ ++ WO o n v) sz)) 1 6 (va_A (W5 k ad σ ++ WO o n v) sz) := by
  refine fw_L (S := Mem × Int64 × Value) (wf := fun u : Mem × Int64 × Value => W5 k ad u.1 ++ WO o u.2.1 u.2.2) (post := fun r u => post r u.1 u.2.1 u.2.2) (by decide) rfl (Nat.le_of_ble_eq_true rfl) ?_
  intro p e s m args below meth c A Q ls hC hN htb hP hD hl hret
  obtain ⟨⟨hx, hb, hml, hown, hts⟩, hG, hA⟩ := id hC
  have hK := hG.1
  have hS : va_S A s.heap s.heap [] := va_S.rf
  have hl : lv_has ls 5 [(0, .ref (ad 0)), (1, .int p1), (2, .int p2), (3, .ref o)] := hl
  have hown : s.vm.findClass RL = some m.cls := hown
  have hin_X6 : ∀ w ∈ u_ws RX6 TX6 2, w ∈ wq_L_absorb := fun w h => List.mem_cons_of_mem _ (iUB_X6 w h)
  unfold q_L_absorb at hp
  refine lv_aload_n hx hb dL_absorb_0 rfl (lv_at hl 3 rfl) ?_
  refine lv_aload_n hx hb dL_absorb_1 rfl (lv_at hl 0 rfl) ?_
  refine lv_iload_n hx hb dL_absorb_2 rfl (lv_at hl 1 rfl) ?_
  refine lv_iload_n hx hb dL_absorb_3 rfl (lv_at hl 2 rfl) ?_
  have hFc := va_free0 (D_left hD) hS hA
  refine vx_calli (vx_runV (g := F0 m 4 ls ([.int p2, .int p1, .ref (ad 0), .ref o])) (As := [.int p1, .int p2]) (rest := [.ref o]) hC.1 (c_X5_absorb l hflag D k ad hp) (cwV 2 hts (gB_V B_51 B_52 B_53 (iB_A _ A_25) (iB_A _ A_269)) rfl rfl rfl (by decide +kernel) ⟨Nat.le_of_ble_eq_true rfl, Nat.le_of_ble_eq_true rfl⟩) ⟨Pw_blind, va_recv hK hP (ci := 9) (q0 := 0) rfl rfl, fw_pre hC (P_left hP) (D_left hD) hS⟩ rfl rfl hl.1 rfl (lv_room (Nat.le_of_ble_eq_true rfl)) dL_absorb_4 ⟨Nat.le_of_ble_eq_true rfl, Nat.le_of_ble_eq_true rfl⟩) hS (fun q _ h => hFc q h) hFc (fun q _ h => hFc q h) ?_ ?_
  · intro E ce q9 u t H1 locs1 ht hvm hpx hB hz hk hS1 hcell hcv hcl
    obtain ⟨E1, σ1⟩ := u
    obtain ⟨hE, hP1, hD1⟩ := hB
    subst hE
    rw [ht] at hP1
    obtain ⟨hP2, hD2⟩ := Jn.left (wf := fun u : Mem => W5 k ad u) hP hD σ1 H1 hP1 hD1 hz hk hFc
    try dsimp only at hpx
    rcases hpx with ⟨rfl, hpx⟩ | ⟨rfl, hpx⟩
    · refine vx_catch (name := eIO) (E := eIO) hown [] (tbE (0, 11, 14, 27)) [tbE (0, 11, 18, 21)] htb (fun z hz => by simp at hz) rfl (by decide) (hts _ (List.mem_cons_of_mem _ B_6)) (va_Nw.use rfl (GG.nc hG (q := ("java/lang/IndexOutOfBoundsException", "java/lang/IndexOutOfBoundsException")) 6 rfl)) hcell hcv hcl ?_
      refine lv_astore (lv' := [(4, .ref q9), (0, .ref (ad 0)), (1, .int p1), (2, .int p2), (3, .ref o)]) hx hb dL_absorb_14 hl (by decide) rfl (fun ls hl => ?_)
      refine lv_iconst (v := 1) hx hb dL_absorb_16 (by decide) ?_
      exact hret 1 (σ1, n, v) _ _ _ _ _ _ dL_absorb_17 hP2 hD2 hS1 (Nat.le_of_ble_eq_true rfl) (Nat.le_of_ble_eq_true rfl) hpx
    · refine vx_catch (name := eIS) (E := eIS) hown [tbE (0, 11, 14, 27)] (tbE (0, 11, 18, 21)) [] htb (fun z hz => by obtain rfl := List.mem_singleton.mp hz; exact Or.inr ⟨by decide, eIO, (hts _ (List.mem_cons_of_mem _ B_6)), hN.2.2⟩) rfl (by decide) (hts _ (List.mem_cons_of_mem _ B_1)) (va_Nw.use rfl (GG.nc hG (q := ("java/lang/IllegalStateException", "java/lang/IllegalStateException")) 5 rfl)) hcell hcv hcl ?_
      refine lv_astore (lv' := [(4, .ref q9), (0, .ref (ad 0)), (1, .int p1), (2, .int p2), (3, .ref o)]) hx hb dL_absorb_18 hl (by decide) rfl (fun ls hl => ?_)
      refine lv_iconst (v := 2) hx hb dL_absorb_20 (by decide) ?_
      exact hret 2 (σ1, n, v) _ _ _ _ _ _ dL_absorb_21 hP2 hD2 hS1 (Nat.le_of_ble_eq_true rfl) (Nat.le_of_ble_eq_true rfl) hpx
  · intro r σ1 t H1 locs1 ht hvm hpost hB hz hk hS1
    obtain ⟨hP1, hD1⟩ := hB
    rw [ht] at hP1
    obtain ⟨hP, hD⟩ := Jn.left (wf := fun u : Mem => W5 k ad u) hP hD σ1 H1 hP1 hD1 hz hk hFc
    try dsimp only at hpost
    refine lv_i2l (v := r.toInt64) hx hb dL_absorb_7 rfl ?_
    refine va_putN (D := D) (ci := 10) (v := .long r.toInt64) (ty := .long) (C := RX6) (T := TX6) (N := 2) hx hb hts hin_X6 tyX6 tyX6_ok nmX6 hown hK hP hD hS1 45 rfl rfl 0 (by decide) (va_Nw.use rfl (GG.nf hG (q := (RL, 13, "MeetjoinLaw$Out", "n", "J", "MeetjoinLaw")) 0 rfl)) (fun _ h9 => h9) rfl (by decide +kernel) rfl rfl (Nat.le_of_ble_eq_true rfl) dL_absorb_8 (fun H locs hP hD hS => ?_)
    refine lv_goto (tgt := 22) hx hb dL_absorb_11 (by decide) ?_
    refine lv_iconst (v := 0) hx hb dL_absorb_22 (by decide) ?_
    exact hret 0 (σ1, r.toInt64, v) _ _ _ _ _ _ dL_absorb_23 hP hD hS (Nat.le_of_ble_eq_true rfl) (Nat.le_of_ble_eq_true rfl) hpost
def q_L_ofField (post : Int32 → Mem → Int64 → Value → Prop) (p1 : Int32) (p2 : Int32) (n : Int64) (v : Value) (σ : Mem) : Prop := q_X5_ofField (fun (r : Int32) (σ' : Mem) => post 0 σ' r.toInt64 v) (fun (E : String) (σ' : Mem) => (E = eIO ∧ post 1 σ' n v) ∨ (E = eIA ∧ post 2 σ' n v)) p1 p2 σ
abbrev rm_L_ofField : Room := { frames := 7, cells := 1, slots := 6, locals := 252 }
abbrev wq_L_ofField : List Cond := Cond.codeWith yL_ofField cL_ofField 5 (some .int) [(0, 11, 14, 27), (0, 11, 18, 19)] :: wLAW
set_option maxHeartbeats 4000000 in
set_option maxRecDepth 100000 in
theorem c_L_ofField (l : Launch) (hflag : l.stackTraces = false) (D : va_G) (k ad : Nat → Nat) (o : Nat) {sz : Nat} {σ : Mem} {n : Int64} {v : Value} {p1 : Int32} {p2 : Int32} {post : Int32 → Mem → Int64 → Value → Prop} (hp : q_L_ofField post p1 p2 n v σ) : Met l yL_ofField wq_L_ofField rm_L_ofField (va_Pc [.ref (ad 0), .int p1, .int p2, .ref o] (PwL D k (W5 k ad σ ++ WO o n v) sz)) (va_Qi (fun r (u : Mem × Int64 × Value) => post r u.1 u.2.1 u.2.2) (fun u => Bw D (W5 k ad σ ++ WO o n v) sz (W5 k ad u.1 ++ WO o u.2.1 u.2.2)) (va_A (W5 k ad σ ++ WO o n v) sz)) 1 6 (va_A (W5 k ad σ ++ WO o n v) sz) := by
  refine fw_L (S := Mem × Int64 × Value) (wf := fun u : Mem × Int64 × Value => W5 k ad u.1 ++ WO o u.2.1 u.2.2) (post := fun r u => post r u.1 u.2.1 u.2.2) (by decide) rfl (Nat.le_of_ble_eq_true rfl) ?_
  intro p e s m args below meth c A Q ls hC hN htb hP hD hl hret
  obtain ⟨⟨hx, hb, hml, hown, hts⟩, hG, hA⟩ := id hC
  have hK := hG.1
  have hS : va_S A s.heap s.heap [] := va_S.rf
  have hl : lv_has ls 5 [(0, .ref (ad 0)), (1, .int p1), (2, .int p2), (3, .ref o)] := hl
  have hown : s.vm.findClass RL = some m.cls := hown
  have hin_X6 : ∀ w ∈ u_ws RX6 TX6 2, w ∈ wq_L_ofField := fun w h => List.mem_cons_of_mem _ (iUB_X6 w h)
  unfold q_L_ofField at hp
  refine lv_aload_n hx hb dL_ofField_0 rfl (lv_at hl 3 rfl) ?_
  refine lv_aload_n hx hb dL_ofField_1 rfl (lv_at hl 0 rfl) ?_
  refine lv_iload_n hx hb dL_ofField_2 rfl (lv_at hl 1 rfl) ?_
  refine lv_iload_n hx hb dL_ofField_3 rfl (lv_at hl 2 rfl) ?_
  have hFc := va_free0 (D_left hD) hS hA
  refine vx_calli (vx_runV (g := F0 m 4 ls ([.int p2, .int p1, .ref (ad 0), .ref o])) (As := [.int p1, .int p2]) (rest := [.ref o]) hC.1 (c_X5_ofField l hflag D k ad hp) (cwV 2 hts (gB_V B_55 (iB_A _ A_543) (iB_A _ A_544) (iB_A _ A_25) (iB_A _ A_278)) rfl rfl rfl (by decide +kernel) ⟨Nat.le_of_ble_eq_true rfl, Nat.le_of_ble_eq_true rfl⟩) ⟨Pw_blind, va_recv hK hP (ci := 9) (q0 := 0) rfl rfl, fw_pre hC (P_left hP) (D_left hD) hS⟩ rfl rfl hl.1 rfl (lv_room (Nat.le_of_ble_eq_true rfl)) dL_ofField_4 ⟨Nat.le_of_ble_eq_true rfl, Nat.le_of_ble_eq_true rfl⟩) hS (fun q _ h => hFc q h) hFc (fun q _ h => hFc q h) ?_ ?_
  · intro E ce q9 u t H1 locs1 ht hvm hpx hB hz hk hS1 hcell hcv hcl
    obtain ⟨E1, σ1⟩ := u
    obtain ⟨hE, hP1, hD1⟩ := hB
    subst hE
    rw [ht] at hP1
    obtain ⟨hP2, hD2⟩ := Jn.left (wf := fun u : Mem => W5 k ad u) hP hD σ1 H1 hP1 hD1 hz hk hFc
    try dsimp only at hpx
    rcases hpx with ⟨rfl, hpx⟩ | ⟨rfl, hpx⟩
    · refine vx_catch (name := eIO) (E := eIO) hown [] (tbE (0, 11, 14, 27)) [tbE (0, 11, 18, 19)] htb (fun z hz => by simp at hz) rfl (by decide) (hts _ (List.mem_cons_of_mem _ B_6)) (va_Nw.use rfl (GG.nc hG (q := ("java/lang/IndexOutOfBoundsException", "java/lang/IndexOutOfBoundsException")) 6 rfl)) hcell hcv hcl ?_
      refine lv_astore (lv' := [(4, .ref q9), (0, .ref (ad 0)), (1, .int p1), (2, .int p2), (3, .ref o)]) hx hb dL_ofField_14 hl (by decide) rfl (fun ls hl => ?_)
      refine lv_iconst (v := 1) hx hb dL_ofField_16 (by decide) ?_
      exact hret 1 (σ1, n, v) _ _ _ _ _ _ dL_ofField_17 hP2 hD2 hS1 (Nat.le_of_ble_eq_true rfl) (Nat.le_of_ble_eq_true rfl) hpx
    · refine vx_catch (name := eIA) (E := eIA) hown [tbE (0, 11, 14, 27)] (tbE (0, 11, 18, 19)) [] htb (fun z hz => by obtain rfl := List.mem_singleton.mp hz; exact Or.inr ⟨by decide, eIO, (hts _ (List.mem_cons_of_mem _ B_6)), hN.2.1⟩) rfl (by decide) (hts _ (List.mem_cons_of_mem _ B_0)) (va_Nw.use rfl (GG.nc hG (q := ("java/lang/IllegalArgumentException", "java/lang/IllegalArgumentException")) 4 rfl)) hcell hcv hcl ?_
      refine lv_astore (lv' := [(4, .ref q9), (0, .ref (ad 0)), (1, .int p1), (2, .int p2), (3, .ref o)]) hx hb dL_ofField_18 hl (by decide) rfl (fun ls hl => ?_)
      refine lv_iconst (v := 2) hx hb dL_ofField_20 (by decide) ?_
      exact hret 2 (σ1, n, v) _ _ _ _ _ _ dL_ofField_21 hP2 hD2 hS1 (Nat.le_of_ble_eq_true rfl) (Nat.le_of_ble_eq_true rfl) hpx
  · intro r σ1 t H1 locs1 ht hvm hpost hB hz hk hS1
    obtain ⟨hP1, hD1⟩ := hB
    rw [ht] at hP1
    obtain ⟨hP, hD⟩ := Jn.left (wf := fun u : Mem => W5 k ad u) hP hD σ1 H1 hP1 hD1 hz hk hFc
    try dsimp only at hpost
    refine lv_i2l (v := r.toInt64) hx hb dL_ofField_7 rfl ?_
    refine va_putN (D := D) (ci := 10) (v := .long r.toInt64) (ty := .long) (C := RX6) (T := TX6) (N := 2) hx hb hts hin_X6 tyX6 tyX6_ok nmX6 hown hK hP hD hS1 45 rfl rfl 0 (by decide) (va_Nw.use rfl (GG.nf hG (q := (RL, 13, "MeetjoinLaw$Out", "n", "J", "MeetjoinLaw")) 0 rfl)) (fun _ h9 => h9) rfl (by decide +kernel) rfl rfl (Nat.le_of_ble_eq_true rfl) dL_ofField_8 (fun H locs hP hD hS => ?_)
    refine lv_goto (tgt := 22) hx hb dL_ofField_11 (by decide) ?_
    refine lv_iconst (v := 0) hx hb dL_ofField_22 (by decide) ?_
    exact hret 0 (σ1, r.toInt64, v) _ _ _ _ _ _ dL_ofField_23 hP hD hS (Nat.le_of_ble_eq_true rfl) (Nat.le_of_ble_eq_true rfl) hpost
def q_L_ofLine (post : Int32 → Mem → Int64 → Value → Prop) (p1 : Int32) (p2 : Int32) (n : Int64) (v : Value) (σ : Mem) : Prop := q_X5_ofLine (fun (r : Int32) (σ' : Mem) => post 0 σ' r.toInt64 v) (fun (E : String) (σ' : Mem) => (E = eIO ∧ post 1 σ' n v) ∨ (E = eIA ∧ post 2 σ' n v)) p1 p2 σ
abbrev rm_L_ofLine : Room := { frames := 7, cells := 1, slots := 6, locals := 252 }
abbrev wq_L_ofLine : List Cond := Cond.codeWith yL_ofLine cL_ofLine 5 (some .int) [(0, 11, 14, 27), (0, 11, 18, 19)] :: wLAW
set_option maxHeartbeats 4000000 in
set_option maxRecDepth 100000 in
theorem c_L_ofLine (l : Launch) (hflag : l.stackTraces = false) (D : va_G) (k ad : Nat → Nat) (o : Nat) {sz : Nat} {σ : Mem} {n : Int64} {v : Value} {p1 : Int32} {p2 : Int32} {post : Int32 → Mem → Int64 → Value → Prop} (hp : q_L_ofLine post p1 p2 n v σ) : Met l yL_ofLine wq_L_ofLine rm_L_ofLine (va_Pc [.ref (ad 0), .int p1, .int p2, .ref o] (PwL D k (W5 k ad σ ++ WO o n v) sz)) (va_Qi (fun r (u : Mem × Int64 × Value) => post r u.1 u.2.1 u.2.2) (fun u => Bw D (W5 k ad σ ++ WO o n v) sz (W5 k ad u.1 ++ WO o u.2.1 u.2.2)) (va_A (W5 k ad σ ++ WO o n v) sz)) 1 6 (va_A (W5 k ad σ ++ WO o n v) sz) := by
  refine fw_L (S := Mem × Int64 × Value) (wf := fun u : Mem × Int64 × Value => W5 k ad u.1 ++ WO o u.2.1 u.2.2) (post := fun r u => post r u.1 u.2.1 u.2.2) (by decide) rfl (Nat.le_of_ble_eq_true rfl) ?_
  intro p e s m args below meth c A Q ls hC hN htb hP hD hl hret
  obtain ⟨⟨hx, hb, hml, hown, hts⟩, hG, hA⟩ := id hC
  have hK := hG.1
  have hS : va_S A s.heap s.heap [] := va_S.rf
  have hl : lv_has ls 5 [(0, .ref (ad 0)), (1, .int p1), (2, .int p2), (3, .ref o)] := hl
  have hown : s.vm.findClass RL = some m.cls := hown
  have hin_X6 : ∀ w ∈ u_ws RX6 TX6 2, w ∈ wq_L_ofLine := fun w h => List.mem_cons_of_mem _ (iUB_X6 w h)
  unfold q_L_ofLine at hp
  refine lv_aload_n hx hb dL_ofLine_0 rfl (lv_at hl 3 rfl) ?_
  refine lv_aload_n hx hb dL_ofLine_1 rfl (lv_at hl 0 rfl) ?_
  refine lv_iload_n hx hb dL_ofLine_2 rfl (lv_at hl 1 rfl) ?_
  refine lv_iload_n hx hb dL_ofLine_3 rfl (lv_at hl 2 rfl) ?_
  have hFc := va_free0 (D_left hD) hS hA
  refine vx_calli (vx_runV (g := F0 m 4 ls ([.int p2, .int p1, .ref (ad 0), .ref o])) (As := [.int p1, .int p2]) (rest := [.ref o]) hC.1 (c_X5_ofLine l hflag D k ad hp) (cwV 2 hts (gB_V B_57 (iB_A _ A_549) (iB_A _ A_550) (iB_A _ A_25) (iB_A _ A_287)) rfl rfl rfl (by decide +kernel) ⟨Nat.le_of_ble_eq_true rfl, Nat.le_of_ble_eq_true rfl⟩) ⟨Pw_blind, va_recv hK hP (ci := 9) (q0 := 0) rfl rfl, fw_pre hC (P_left hP) (D_left hD) hS⟩ rfl rfl hl.1 rfl (lv_room (Nat.le_of_ble_eq_true rfl)) dL_ofLine_4 ⟨Nat.le_of_ble_eq_true rfl, Nat.le_of_ble_eq_true rfl⟩) hS (fun q _ h => hFc q h) hFc (fun q _ h => hFc q h) ?_ ?_
  · intro E ce q9 u t H1 locs1 ht hvm hpx hB hz hk hS1 hcell hcv hcl
    obtain ⟨E1, σ1⟩ := u
    obtain ⟨hE, hP1, hD1⟩ := hB
    subst hE
    rw [ht] at hP1
    obtain ⟨hP2, hD2⟩ := Jn.left (wf := fun u : Mem => W5 k ad u) hP hD σ1 H1 hP1 hD1 hz hk hFc
    try dsimp only at hpx
    rcases hpx with ⟨rfl, hpx⟩ | ⟨rfl, hpx⟩
    · refine vx_catch (name := eIO) (E := eIO) hown [] (tbE (0, 11, 14, 27)) [tbE (0, 11, 18, 19)] htb (fun z hz => by simp at hz) rfl (by decide) (hts _ (List.mem_cons_of_mem _ B_6)) (va_Nw.use rfl (GG.nc hG (q := ("java/lang/IndexOutOfBoundsException", "java/lang/IndexOutOfBoundsException")) 6 rfl)) hcell hcv hcl ?_
      refine lv_astore (lv' := [(4, .ref q9), (0, .ref (ad 0)), (1, .int p1), (2, .int p2), (3, .ref o)]) hx hb dL_ofLine_14 hl (by decide) rfl (fun ls hl => ?_)
      refine lv_iconst (v := 1) hx hb dL_ofLine_16 (by decide) ?_
      exact hret 1 (σ1, n, v) _ _ _ _ _ _ dL_ofLine_17 hP2 hD2 hS1 (Nat.le_of_ble_eq_true rfl) (Nat.le_of_ble_eq_true rfl) hpx
    · refine vx_catch (name := eIA) (E := eIA) hown [tbE (0, 11, 14, 27)] (tbE (0, 11, 18, 19)) [] htb (fun z hz => by obtain rfl := List.mem_singleton.mp hz; exact Or.inr ⟨by decide, eIO, (hts _ (List.mem_cons_of_mem _ B_6)), hN.2.1⟩) rfl (by decide) (hts _ (List.mem_cons_of_mem _ B_0)) (va_Nw.use rfl (GG.nc hG (q := ("java/lang/IllegalArgumentException", "java/lang/IllegalArgumentException")) 4 rfl)) hcell hcv hcl ?_
      refine lv_astore (lv' := [(4, .ref q9), (0, .ref (ad 0)), (1, .int p1), (2, .int p2), (3, .ref o)]) hx hb dL_ofLine_18 hl (by decide) rfl (fun ls hl => ?_)
      refine lv_iconst (v := 2) hx hb dL_ofLine_20 (by decide) ?_
      exact hret 2 (σ1, n, v) _ _ _ _ _ _ dL_ofLine_21 hP2 hD2 hS1 (Nat.le_of_ble_eq_true rfl) (Nat.le_of_ble_eq_true rfl) hpx
  · intro r σ1 t H1 locs1 ht hvm hpost hB hz hk hS1
    obtain ⟨hP1, hD1⟩ := hB
    rw [ht] at hP1
    obtain ⟨hP, hD⟩ := Jn.left (wf := fun u : Mem => W5 k ad u) hP hD σ1 H1 hP1 hD1 hz hk hFc
    try dsimp only at hpost
    refine lv_i2l (v := r.toInt64) hx hb dL_ofLine_7 rfl ?_
    refine va_putN (D := D) (ci := 10) (v := .long r.toInt64) (ty := .long) (C := RX6) (T := TX6) (N := 2) hx hb hts hin_X6 tyX6 tyX6_ok nmX6 hown hK hP hD hS1 45 rfl rfl 0 (by decide) (va_Nw.use rfl (GG.nf hG (q := (RL, 13, "MeetjoinLaw$Out", "n", "J", "MeetjoinLaw")) 0 rfl)) (fun _ h9 => h9) rfl (by decide +kernel) rfl rfl (Nat.le_of_ble_eq_true rfl) dL_ofLine_8 (fun H locs hP hD hS => ?_)
    refine lv_goto (tgt := 22) hx hb dL_ofLine_11 (by decide) ?_
    refine lv_iconst (v := 0) hx hb dL_ofLine_22 (by decide) ?_
    exact hret 0 (σ1, r.toInt64, v) _ _ _ _ _ _ dL_ofLine_23 hP hD hS (Nat.le_of_ble_eq_true rfl) (Nat.le_of_ble_eq_true rfl) hpost
def q_L_ofMachine (post : Int32 → Mem → Int64 → Value → Prop) (p1 : Int32) (p2 : Int32) (n : Int64) (v : Value) (σ : Mem) : Prop := q_X5_ofMachine (fun (r : Int32) (σ' : Mem) => post 0 σ' r.toInt64 v) (fun (E : String) (σ' : Mem) => (E = eIO ∧ post 1 σ' n v) ∨ (E = eIA ∧ post 2 σ' n v)) p1 p2 σ
abbrev rm_L_ofMachine : Room := { frames := 7, cells := 1, slots := 6, locals := 252 }
abbrev wq_L_ofMachine : List Cond := Cond.codeWith yL_ofMachine cL_ofMachine 5 (some .int) [(0, 11, 14, 27), (0, 11, 18, 19)] :: wLAW
set_option maxHeartbeats 4000000 in
set_option maxRecDepth 100000 in
theorem c_L_ofMachine (l : Launch) (hflag : l.stackTraces = false) (D : va_G) (k ad : Nat → Nat) (o : Nat) {sz : Nat} {σ : Mem} {n : Int64} {v : Value} {p1 : Int32} {p2 : Int32} {post : Int32 → Mem → Int64 → Value → Prop} (hp : q_L_ofMachine post p1 p2 n v σ) : Met l yL_ofMachine wq_L_ofMachine rm_L_ofMachine (va_Pc [.ref (ad 0), .int p1, .int p2, .ref o] (PwL D k (W5 k ad σ ++ WO o n v) sz)) (va_Qi (fun r (u : Mem × Int64 × Value) => post r u.1 u.2.1 u.2.2) (fun u => Bw D (W5 k ad σ ++ WO o n v) sz (W5 k ad u.1 ++ WO o u.2.1 u.2.2)) (va_A (W5 k ad σ ++ WO o n v) sz)) 1 6 (va_A (W5 k ad σ ++ WO o n v) sz) := by
  refine fw_L (S := Mem × Int64 × Value) (wf := fun u : Mem × Int64 × Value => W5 k ad u.1 ++ WO o u.2.1 u.2.2) (post := fun r u => post r u.1 u.2.1 u.2.2) (by decide) rfl (Nat.le_of_ble_eq_true rfl) ?_
  intro p e s m args below meth c A Q ls hC hN htb hP hD hl hret
  obtain ⟨⟨hx, hb, hml, hown, hts⟩, hG, hA⟩ := id hC
  have hK := hG.1
  have hS : va_S A s.heap s.heap [] := va_S.rf
  have hl : lv_has ls 5 [(0, .ref (ad 0)), (1, .int p1), (2, .int p2), (3, .ref o)] := hl
  have hown : s.vm.findClass RL = some m.cls := hown
  have hin_X6 : ∀ w ∈ u_ws RX6 TX6 2, w ∈ wq_L_ofMachine := fun w h => List.mem_cons_of_mem _ (iUB_X6 w h)
  unfold q_L_ofMachine at hp
  refine lv_aload_n hx hb dL_ofMachine_0 rfl (lv_at hl 3 rfl) ?_
  refine lv_aload_n hx hb dL_ofMachine_1 rfl (lv_at hl 0 rfl) ?_
  refine lv_iload_n hx hb dL_ofMachine_2 rfl (lv_at hl 1 rfl) ?_
  refine lv_iload_n hx hb dL_ofMachine_3 rfl (lv_at hl 2 rfl) ?_
  have hFc := va_free0 (D_left hD) hS hA
  refine vx_calli (vx_runV (g := F0 m 4 ls ([.int p2, .int p1, .ref (ad 0), .ref o])) (As := [.int p1, .int p2]) (rest := [.ref o]) hC.1 (c_X5_ofMachine l hflag D k ad hp) (cwV 2 hts (gB_V B_59 (iB_A _ A_528) (iB_A _ A_529) (iB_A _ A_25) (iB_A _ A_290)) rfl rfl rfl (by decide +kernel) ⟨Nat.le_of_ble_eq_true rfl, Nat.le_of_ble_eq_true rfl⟩) ⟨Pw_blind, va_recv hK hP (ci := 9) (q0 := 0) rfl rfl, fw_pre hC (P_left hP) (D_left hD) hS⟩ rfl rfl hl.1 rfl (lv_room (Nat.le_of_ble_eq_true rfl)) dL_ofMachine_4 ⟨Nat.le_of_ble_eq_true rfl, Nat.le_of_ble_eq_true rfl⟩) hS (fun q _ h => hFc q h) hFc (fun q _ h => hFc q h) ?_ ?_
  · intro E ce q9 u t H1 locs1 ht hvm hpx hB hz hk hS1 hcell hcv hcl
    obtain ⟨E1, σ1⟩ := u
    obtain ⟨hE, hP1, hD1⟩ := hB
    subst hE
    rw [ht] at hP1
    obtain ⟨hP2, hD2⟩ := Jn.left (wf := fun u : Mem => W5 k ad u) hP hD σ1 H1 hP1 hD1 hz hk hFc
    try dsimp only at hpx
    rcases hpx with ⟨rfl, hpx⟩ | ⟨rfl, hpx⟩
    · refine vx_catch (name := eIO) (E := eIO) hown [] (tbE (0, 11, 14, 27)) [tbE (0, 11, 18, 19)] htb (fun z hz => by simp at hz) rfl (by decide) (hts _ (List.mem_cons_of_mem _ B_6)) (va_Nw.use rfl (GG.nc hG (q := ("java/lang/IndexOutOfBoundsException", "java/lang/IndexOutOfBoundsException")) 6 rfl)) hcell hcv hcl ?_
      refine lv_astore (lv' := [(4, .ref q9), (0, .ref (ad 0)), (1, .int p1), (2, .int p2), (3, .ref o)]) hx hb dL_ofMachine_14 hl (by decide) rfl (fun ls hl => ?_)
      refine lv_iconst (v := 1) hx hb dL_ofMachine_16 (by decide) ?_
      exact hret 1 (σ1, n, v) _ _ _ _ _ _ dL_ofMachine_17 hP2 hD2 hS1 (Nat.le_of_ble_eq_true rfl) (Nat.le_of_ble_eq_true rfl) hpx
    · refine vx_catch (name := eIA) (E := eIA) hown [tbE (0, 11, 14, 27)] (tbE (0, 11, 18, 19)) [] htb (fun z hz => by obtain rfl := List.mem_singleton.mp hz; exact Or.inr ⟨by decide, eIO, (hts _ (List.mem_cons_of_mem _ B_6)), hN.2.1⟩) rfl (by decide) (hts _ (List.mem_cons_of_mem _ B_0)) (va_Nw.use rfl (GG.nc hG (q := ("java/lang/IllegalArgumentException", "java/lang/IllegalArgumentException")) 4 rfl)) hcell hcv hcl ?_
      refine lv_astore (lv' := [(4, .ref q9), (0, .ref (ad 0)), (1, .int p1), (2, .int p2), (3, .ref o)]) hx hb dL_ofMachine_18 hl (by decide) rfl (fun ls hl => ?_)
      refine lv_iconst (v := 2) hx hb dL_ofMachine_20 (by decide) ?_
      exact hret 2 (σ1, n, v) _ _ _ _ _ _ dL_ofMachine_21 hP2 hD2 hS1 (Nat.le_of_ble_eq_true rfl) (Nat.le_of_ble_eq_true rfl) hpx
  · intro r σ1 t H1 locs1 ht hvm hpost hB hz hk hS1
    obtain ⟨hP1, hD1⟩ := hB
    rw [ht] at hP1
    obtain ⟨hP, hD⟩ := Jn.left (wf := fun u : Mem => W5 k ad u) hP hD σ1 H1 hP1 hD1 hz hk hFc
    try dsimp only at hpost
    refine lv_i2l (v := r.toInt64) hx hb dL_ofMachine_7 rfl ?_
    refine va_putN (D := D) (ci := 10) (v := .long r.toInt64) (ty := .long) (C := RX6) (T := TX6) (N := 2) hx hb hts hin_X6 tyX6 tyX6_ok nmX6 hown hK hP hD hS1 45 rfl rfl 0 (by decide) (va_Nw.use rfl (GG.nf hG (q := (RL, 13, "MeetjoinLaw$Out", "n", "J", "MeetjoinLaw")) 0 rfl)) (fun _ h9 => h9) rfl (by decide +kernel) rfl rfl (Nat.le_of_ble_eq_true rfl) dL_ofMachine_8 (fun H locs hP hD hS => ?_)
    refine lv_goto (tgt := 22) hx hb dL_ofMachine_11 (by decide) ?_
    refine lv_iconst (v := 0) hx hb dL_ofMachine_22 (by decide) ?_
    exact hret 0 (σ1, r.toInt64, v) _ _ _ _ _ _ dL_ofMachine_23 hP hD hS (Nat.le_of_ble_eq_true rfl) (Nat.le_of_ble_eq_true rfl) hpost
def q_L_has (post : Int32 → Mem → Int64 → Value → Prop) (p1 : Int32) (p2 : Int32) (n : Int64) (v : Value) (σ : Mem) : Prop := q_X5_has (fun (r : Int32) (σ' : Mem) => post 0 σ' r.toInt64 v) (fun (E : String) (σ' : Mem) => (E = eIO ∧ post 1 σ' n v)) p1 p2 σ
abbrev rm_L_has : Room := { frames := 7, cells := 1, slots := 6, locals := 252 }
abbrev wq_L_has : List Cond := Cond.codeWith yL_has cL_has 5 (some .int) [(0, 11, 14, 27)] :: wLAW
set_option maxHeartbeats 4000000 in
set_option maxRecDepth 100000 in
theorem c_L_has (l : Launch) (hflag : l.stackTraces = false) (D : va_G) (k ad : Nat → Nat) (o : Nat) {sz : Nat} {σ : Mem} {n : Int64} {v : Value} {p1 : Int32} {p2 : Int32} {post : Int32 → Mem → Int64 → Value → Prop} (hp : q_L_has post p1 p2 n v σ) : Met l yL_has wq_L_has rm_L_has (va_Pc [.ref (ad 0), .int p1, .int p2, .ref o] (PwL D k (W5 k ad σ ++ WO o n v) sz)) (va_Qi (fun r (u : Mem × Int64 × Value) => post r u.1 u.2.1 u.2.2) (fun u => Bw D (W5 k ad σ ++ WO o n v) sz (W5 k ad u.1 ++ WO o u.2.1 u.2.2)) (va_A (W5 k ad σ ++ WO o n v) sz)) 1 6 (va_A (W5 k ad σ ++ WO o n v) sz) := by
  refine fw_L (S := Mem × Int64 × Value) (wf := fun u : Mem × Int64 × Value => W5 k ad u.1 ++ WO o u.2.1 u.2.2) (post := fun r u => post r u.1 u.2.1 u.2.2) (by decide) rfl (Nat.le_of_ble_eq_true rfl) ?_
  intro p e s m args below meth c A Q ls hC hN htb hP hD hl hret
  obtain ⟨⟨hx, hb, hml, hown, hts⟩, hG, hA⟩ := id hC
  have hK := hG.1
  have hS : va_S A s.heap s.heap [] := va_S.rf
  have hl : lv_has ls 5 [(0, .ref (ad 0)), (1, .int p1), (2, .int p2), (3, .ref o)] := hl
  have hown : s.vm.findClass RL = some m.cls := hown
  have hin_X6 : ∀ w ∈ u_ws RX6 TX6 2, w ∈ wq_L_has := fun w h => List.mem_cons_of_mem _ (iUB_X6 w h)
  unfold q_L_has at hp
  refine lv_aload_n hx hb dL_has_0 rfl (lv_at hl 3 rfl) ?_
  refine lv_aload_n hx hb dL_has_1 rfl (lv_at hl 0 rfl) ?_
  refine lv_iload_n hx hb dL_has_2 rfl (lv_at hl 1 rfl) ?_
  refine lv_iload_n hx hb dL_has_3 rfl (lv_at hl 2 rfl) ?_
  have hFc := va_free0 (D_left hD) hS hA
  refine vx_calli (vx_runV (g := F0 m 4 ls ([.int p2, .int p1, .ref (ad 0), .ref o])) (As := [.int p1, .int p2]) (rest := [.ref o]) hC.1 (c_X5_has l hflag D k ad hp) (cwV 2 hts (gB_V B_181 (iB_A _ A_531) (iB_A _ A_532) (iB_A _ A_25) (iB_A _ A_291)) rfl rfl rfl (by decide +kernel) ⟨Nat.le_of_ble_eq_true rfl, Nat.le_of_ble_eq_true rfl⟩) ⟨Pw_blind, va_recv hK hP (ci := 9) (q0 := 0) rfl rfl, fw_pre hC (P_left hP) (D_left hD) hS⟩ rfl rfl hl.1 rfl (lv_room (Nat.le_of_ble_eq_true rfl)) dL_has_4 ⟨Nat.le_of_ble_eq_true rfl, Nat.le_of_ble_eq_true rfl⟩) hS (fun q _ h => hFc q h) hFc (fun q _ h => hFc q h) ?_ ?_
  · intro E ce q9 u t H1 locs1 ht hvm hpx hB hz hk hS1 hcell hcv hcl
    obtain ⟨E1, σ1⟩ := u
    obtain ⟨hE, hP1, hD1⟩ := hB
    subst hE
    rw [ht] at hP1
    obtain ⟨hP2, hD2⟩ := Jn.left (wf := fun u : Mem => W5 k ad u) hP hD σ1 H1 hP1 hD1 hz hk hFc
    try dsimp only at hpx
    obtain ⟨rfl, hpx⟩ := hpx
    refine vx_catch (name := eIO) (E := eIO) hown [] (tbE (0, 11, 14, 27)) [] htb (fun z hz => by simp at hz) rfl (by decide) (hts _ (List.mem_cons_of_mem _ B_6)) (va_Nw.use rfl (GG.nc hG (q := ("java/lang/IndexOutOfBoundsException", "java/lang/IndexOutOfBoundsException")) 6 rfl)) hcell hcv hcl ?_
    refine lv_astore (lv' := [(4, .ref q9), (0, .ref (ad 0)), (1, .int p1), (2, .int p2), (3, .ref o)]) hx hb dL_has_14 hl (by decide) rfl (fun ls hl => ?_)
    refine lv_iconst (v := 1) hx hb dL_has_16 (by decide) ?_
    exact hret 1 (σ1, n, v) _ _ _ _ _ _ dL_has_17 hP2 hD2 hS1 (Nat.le_of_ble_eq_true rfl) (Nat.le_of_ble_eq_true rfl) hpx
  · intro r σ1 t H1 locs1 ht hvm hpost hB hz hk hS1
    obtain ⟨hP1, hD1⟩ := hB
    rw [ht] at hP1
    obtain ⟨hP, hD⟩ := Jn.left (wf := fun u : Mem => W5 k ad u) hP hD σ1 H1 hP1 hD1 hz hk hFc
    try dsimp only at hpost
    refine lv_i2l (v := r.toInt64) hx hb dL_has_7 rfl ?_
    refine va_putN (D := D) (ci := 10) (v := .long r.toInt64) (ty := .long) (C := RX6) (T := TX6) (N := 2) hx hb hts hin_X6 tyX6 tyX6_ok nmX6 hown hK hP hD hS1 45 rfl rfl 0 (by decide) (va_Nw.use rfl (GG.nf hG (q := (RL, 13, "MeetjoinLaw$Out", "n", "J", "MeetjoinLaw")) 0 rfl)) (fun _ h9 => h9) rfl (by decide +kernel) rfl rfl (Nat.le_of_ble_eq_true rfl) dL_has_8 (fun H locs hP hD hS => ?_)
    refine lv_goto (tgt := 18) hx hb dL_has_11 (by decide) ?_
    refine lv_iconst (v := 0) hx hb dL_has_18 (by decide) ?_
    exact hret 0 (σ1, r.toInt64, v) _ _ _ _ _ _ dL_has_19 hP hD hS (Nat.le_of_ble_eq_true rfl) (Nat.le_of_ble_eq_true rfl) hpost
def q_L_ofCommit (post : Int32 → Mem → Int64 → Value → Prop) (p1 : Int32) (p2 : Int32) (n : Int64) (v : Value) (σ : Mem) : Prop := q_X5_ofCommit (fun (r : Int32) (σ' : Mem) => post 0 σ' r.toInt64 v) (fun (E : String) (σ' : Mem) => (E = eIO ∧ post 1 σ' n v)) p1 p2 σ
abbrev rm_L_ofCommit : Room := { frames := 7, cells := 1, slots := 6, locals := 252 }
abbrev wq_L_ofCommit : List Cond := Cond.codeWith yL_ofCommit cL_ofCommit 5 (some .int) [(0, 11, 14, 27)] :: wLAW
set_option maxHeartbeats 4000000 in
set_option maxRecDepth 100000 in
theorem c_L_ofCommit (l : Launch) (hflag : l.stackTraces = false) (D : va_G) (k ad : Nat → Nat) (o : Nat) {sz : Nat} {σ : Mem} {n : Int64} {v : Value} {p1 : Int32} {p2 : Int32} {post : Int32 → Mem → Int64 → Value → Prop} (hp : q_L_ofCommit post p1 p2 n v σ) : Met l yL_ofCommit wq_L_ofCommit rm_L_ofCommit (va_Pc [.ref (ad 0), .int p1, .int p2, .ref o] (PwL D k (W5 k ad σ ++ WO o n v) sz)) (va_Qi (fun r (u : Mem × Int64 × Value) => post r u.1 u.2.1 u.2.2) (fun u => Bw D (W5 k ad σ ++ WO o n v) sz (W5 k ad u.1 ++ WO o u.2.1 u.2.2)) (va_A (W5 k ad σ ++ WO o n v) sz)) 1 6 (va_A (W5 k ad σ ++ WO o n v) sz) := by
  refine fw_L (S := Mem × Int64 × Value) (wf := fun u : Mem × Int64 × Value => W5 k ad u.1 ++ WO o u.2.1 u.2.2) (post := fun r u => post r u.1 u.2.1 u.2.2) (by decide) rfl (Nat.le_of_ble_eq_true rfl) ?_
  intro p e s m args below meth c A Q ls hC hN htb hP hD hl hret
  obtain ⟨⟨hx, hb, hml, hown, hts⟩, hG, hA⟩ := id hC
  have hK := hG.1
  have hS : va_S A s.heap s.heap [] := va_S.rf
  have hl : lv_has ls 5 [(0, .ref (ad 0)), (1, .int p1), (2, .int p2), (3, .ref o)] := hl
  have hown : s.vm.findClass RL = some m.cls := hown
  have hin_X6 : ∀ w ∈ u_ws RX6 TX6 2, w ∈ wq_L_ofCommit := fun w h => List.mem_cons_of_mem _ (iUB_X6 w h)
  unfold q_L_ofCommit at hp
  refine lv_aload_n hx hb dL_ofCommit_0 rfl (lv_at hl 3 rfl) ?_
  refine lv_aload_n hx hb dL_ofCommit_1 rfl (lv_at hl 0 rfl) ?_
  refine lv_iload_n hx hb dL_ofCommit_2 rfl (lv_at hl 1 rfl) ?_
  refine lv_iload_n hx hb dL_ofCommit_3 rfl (lv_at hl 2 rfl) ?_
  have hFc := va_free0 (D_left hD) hS hA
  refine vx_calli (vx_runV (g := F0 m 4 ls ([.int p2, .int p1, .ref (ad 0), .ref o])) (As := [.int p1, .int p2]) (rest := [.ref o]) hC.1 (c_X5_ofCommit l hflag D k ad hp) (cwV 2 hts (gB_V B_187 (iB_A _ A_536) (iB_A _ A_537) (iB_A _ A_25) (iB_A _ A_292)) rfl rfl rfl (by decide +kernel) ⟨Nat.le_of_ble_eq_true rfl, Nat.le_of_ble_eq_true rfl⟩) ⟨Pw_blind, va_recv hK hP (ci := 9) (q0 := 0) rfl rfl, fw_pre hC (P_left hP) (D_left hD) hS⟩ rfl rfl hl.1 rfl (lv_room (Nat.le_of_ble_eq_true rfl)) dL_ofCommit_4 ⟨Nat.le_of_ble_eq_true rfl, Nat.le_of_ble_eq_true rfl⟩) hS (fun q _ h => hFc q h) hFc (fun q _ h => hFc q h) ?_ ?_
  · intro E ce q9 u t H1 locs1 ht hvm hpx hB hz hk hS1 hcell hcv hcl
    obtain ⟨E1, σ1⟩ := u
    obtain ⟨hE, hP1, hD1⟩ := hB
    subst hE
    rw [ht] at hP1
    obtain ⟨hP2, hD2⟩ := Jn.left (wf := fun u : Mem => W5 k ad u) hP hD σ1 H1 hP1 hD1 hz hk hFc
    try dsimp only at hpx
    obtain ⟨rfl, hpx⟩ := hpx
    refine vx_catch (name := eIO) (E := eIO) hown [] (tbE (0, 11, 14, 27)) [] htb (fun z hz => by simp at hz) rfl (by decide) (hts _ (List.mem_cons_of_mem _ B_6)) (va_Nw.use rfl (GG.nc hG (q := ("java/lang/IndexOutOfBoundsException", "java/lang/IndexOutOfBoundsException")) 6 rfl)) hcell hcv hcl ?_
    refine lv_astore (lv' := [(4, .ref q9), (0, .ref (ad 0)), (1, .int p1), (2, .int p2), (3, .ref o)]) hx hb dL_ofCommit_14 hl (by decide) rfl (fun ls hl => ?_)
    refine lv_iconst (v := 1) hx hb dL_ofCommit_16 (by decide) ?_
    exact hret 1 (σ1, n, v) _ _ _ _ _ _ dL_ofCommit_17 hP2 hD2 hS1 (Nat.le_of_ble_eq_true rfl) (Nat.le_of_ble_eq_true rfl) hpx
  · intro r σ1 t H1 locs1 ht hvm hpost hB hz hk hS1
    obtain ⟨hP1, hD1⟩ := hB
    rw [ht] at hP1
    obtain ⟨hP, hD⟩ := Jn.left (wf := fun u : Mem => W5 k ad u) hP hD σ1 H1 hP1 hD1 hz hk hFc
    try dsimp only at hpost
    refine lv_i2l (v := r.toInt64) hx hb dL_ofCommit_7 rfl ?_
    refine va_putN (D := D) (ci := 10) (v := .long r.toInt64) (ty := .long) (C := RX6) (T := TX6) (N := 2) hx hb hts hin_X6 tyX6 tyX6_ok nmX6 hown hK hP hD hS1 45 rfl rfl 0 (by decide) (va_Nw.use rfl (GG.nf hG (q := (RL, 13, "MeetjoinLaw$Out", "n", "J", "MeetjoinLaw")) 0 rfl)) (fun _ h9 => h9) rfl (by decide +kernel) rfl rfl (Nat.le_of_ble_eq_true rfl) dL_ofCommit_8 (fun H locs hP hD hS => ?_)
    refine lv_goto (tgt := 18) hx hb dL_ofCommit_11 (by decide) ?_
    refine lv_iconst (v := 0) hx hb dL_ofCommit_18 (by decide) ?_
    exact hret 0 (σ1, r.toInt64, v) _ _ _ _ _ _ dL_ofCommit_19 hP hD hS (Nat.le_of_ble_eq_true rfl) (Nat.le_of_ble_eq_true rfl) hpost
def q_L_house (post : Int32 → Mem → Int64 → Value → Prop) (p1 : Int32) (n : Int64) (v : Value) (σ : Mem) : Prop := q_X5_house (fun (r : Int32) (σ' : Mem) => post 0 σ' r.toInt64 v) (fun (E : String) (σ' : Mem) => (E = eIA ∧ post 1 σ' n v)) p1 σ
abbrev rm_L_house : Room := { frames := 7, cells := 1, slots := 6, locals := 251 }
abbrev wq_L_house : List Cond := Cond.codeWith yL_house cL_house 4 (some .int) [(0, 10, 13, 19)] :: wLAW
set_option maxHeartbeats 4000000 in
set_option maxRecDepth 100000 in
theorem c_L_house (l : Launch) (hflag : l.stackTraces = false) (D : va_G) (k ad : Nat → Nat) (o : Nat) {sz : Nat} {σ : Mem} {n : Int64} {v : Value} {p1 : Int32} {post : Int32 → Mem → Int64 → Value → Prop} (hp : q_L_house post p1 n v σ) : Met l yL_house wq_L_house rm_L_house (va_Pc [.ref (ad 0), .int p1, .ref o] (PwL D k (W5 k ad σ ++ WO o n v) sz)) (va_Qi (fun r (u : Mem × Int64 × Value) => post r u.1 u.2.1 u.2.2) (fun u => Bw D (W5 k ad σ ++ WO o n v) sz (W5 k ad u.1 ++ WO o u.2.1 u.2.2)) (va_A (W5 k ad σ ++ WO o n v) sz)) 1 6 (va_A (W5 k ad σ ++ WO o n v) sz) := by
  refine fw_L (S := Mem × Int64 × Value) (wf := fun u : Mem × Int64 × Value => W5 k ad u.1 ++ WO o u.2.1 u.2.2) (post := fun r u => post r u.1 u.2.1 u.2.2) (by decide) rfl (Nat.le_of_ble_eq_true rfl) ?_
  intro p e s m args below meth c A Q ls hC hN htb hP hD hl hret
  obtain ⟨⟨hx, hb, hml, hown, hts⟩, hG, hA⟩ := id hC
  have hK := hG.1
  have hS : va_S A s.heap s.heap [] := va_S.rf
  have hl : lv_has ls 4 [(0, .ref (ad 0)), (1, .int p1), (2, .ref o)] := hl
  have hown : s.vm.findClass RL = some m.cls := hown
  have hin_X6 : ∀ w ∈ u_ws RX6 TX6 2, w ∈ wq_L_house := fun w h => List.mem_cons_of_mem _ (iUB_X6 w h)
  unfold q_L_house at hp
  refine lv_aload_n hx hb dL_house_0 rfl (lv_at hl 2 rfl) ?_
  refine lv_aload_n hx hb dL_house_1 rfl (lv_at hl 0 rfl) ?_
  refine lv_iload_n hx hb dL_house_2 rfl (lv_at hl 1 rfl) ?_
  have hFc := va_free0 (D_left hD) hS hA
  refine vx_calli (vx_runV (g := F0 m 3 ls ([.int p1, .ref (ad 0), .ref o])) (As := [.int p1]) (rest := [.ref o]) hC.1 (c_X5_house l hflag D k ad hp) (cwV 1 hts (gB_V B_63 (iB_A _ A_540) (iB_A _ A_541) (iB_A _ A_25) (iB_A _ A_304)) rfl rfl rfl (by decide +kernel) ⟨Nat.le_of_ble_eq_true rfl, Nat.le_of_ble_eq_true rfl⟩) ⟨Pw_blind, va_recv hK hP (ci := 9) (q0 := 0) rfl rfl, fw_pre hC (P_left hP) (D_left hD) hS⟩ rfl rfl hl.1 rfl (lv_room (Nat.le_of_ble_eq_true rfl)) dL_house_3 ⟨Nat.le_of_ble_eq_true rfl, Nat.le_of_ble_eq_true rfl⟩) hS (fun q _ h => hFc q h) hFc (fun q _ h => hFc q h) ?_ ?_
  · intro E ce q9 u t H1 locs1 ht hvm hpx hB hz hk hS1 hcell hcv hcl
    obtain ⟨E1, σ1⟩ := u
    obtain ⟨hE, hP1, hD1⟩ := hB
    subst hE
    rw [ht] at hP1
    obtain ⟨hP2, hD2⟩ := Jn.left (wf := fun u : Mem => W5 k ad u) hP hD σ1 H1 hP1 hD1 hz hk hFc
    try dsimp only at hpx
    obtain ⟨rfl, hpx⟩ := hpx
    refine vx_catch (name := eIA) (E := eIA) hown [] (tbE (0, 10, 13, 19)) [] htb (fun z hz => by simp at hz) rfl (by decide) (hts _ (List.mem_cons_of_mem _ B_0)) (va_Nw.use rfl (GG.nc hG (q := ("java/lang/IllegalArgumentException", "java/lang/IllegalArgumentException")) 4 rfl)) hcell hcv hcl ?_
    refine lv_astore_n (lv' := [(3, .ref q9), (0, .ref (ad 0)), (1, .int p1), (2, .ref o)]) hx hb dL_house_13 rfl hl (by decide) rfl (fun ls hl => ?_)
    refine lv_iconst (v := 1) hx hb dL_house_14 (by decide) ?_
    exact hret 1 (σ1, n, v) _ _ _ _ _ _ dL_house_15 hP2 hD2 hS1 (Nat.le_of_ble_eq_true rfl) (Nat.le_of_ble_eq_true rfl) hpx
  · intro r σ1 t H1 locs1 ht hvm hpost hB hz hk hS1
    obtain ⟨hP1, hD1⟩ := hB
    rw [ht] at hP1
    obtain ⟨hP, hD⟩ := Jn.left (wf := fun u : Mem => W5 k ad u) hP hD σ1 H1 hP1 hD1 hz hk hFc
    try dsimp only at hpost
    refine lv_i2l (v := r.toInt64) hx hb dL_house_6 rfl ?_
    refine va_putN (D := D) (ci := 10) (v := .long r.toInt64) (ty := .long) (C := RX6) (T := TX6) (N := 2) hx hb hts hin_X6 tyX6 tyX6_ok nmX6 hown hK hP hD hS1 45 rfl rfl 0 (by decide) (va_Nw.use rfl (GG.nf hG (q := (RL, 13, "MeetjoinLaw$Out", "n", "J", "MeetjoinLaw")) 0 rfl)) (fun _ h9 => h9) rfl (by decide +kernel) rfl rfl (Nat.le_of_ble_eq_true rfl) dL_house_7 (fun H locs hP hD hS => ?_)
    refine lv_goto (tgt := 16) hx hb dL_house_10 (by decide) ?_
    refine lv_iconst (v := 0) hx hb dL_house_16 (by decide) ?_
    exact hret 0 (σ1, r.toInt64, v) _ _ _ _ _ _ dL_house_17 hP hD hS (Nat.le_of_ble_eq_true rfl) (Nat.le_of_ble_eq_true rfl) hpost
def q_L_value (post : Int32 → Mem → Int64 → Value → Prop) (p1 : Int32) (n : Int64) (v : Value) (σ : Mem) : Prop := q_X5_value (fun (r : Nat) (σ' : Mem) => post 0 σ' n (.ref r)) (fun (E : String) (σ' : Mem) => (E = eIO ∧ post 1 σ' n v)) p1 σ
abbrev rm_L_value : Room := { frames := 7, cells := 4, slots := 88, locals := 253 }
abbrev wq_L_value : List Cond := Cond.codeWith yL_value cL_value 4 (some .int) [(0, 9, 12, 27)] :: wLAW
set_option maxHeartbeats 4000000 in
set_option maxRecDepth 100000 in
theorem c_L_value (l : Launch) (hflag : l.stackTraces = false) (D : va_G) (k ad : Nat → Nat) (o : Nat) {sz : Nat} {σ : Mem} {n : Int64} {v : Value} {p1 : Int32} {post : Int32 → Mem → Int64 → Value → Prop} (hp : q_L_value post p1 n v σ) : Met l yL_value wq_L_value rm_L_value (va_Pc [.ref (ad 0), .int p1, .ref o] (PwL D k (W5 k ad σ ++ WO o n v) sz)) (va_Qi (fun r (u : Mem × Int64 × Value) => post r u.1 u.2.1 u.2.2) (fun u => Bw D (W5 k ad σ ++ WO o n v) sz (W5 k ad u.1 ++ WO o u.2.1 u.2.2)) (va_A (W5 k ad σ ++ WO o n v) sz)) 4 88 (va_A (W5 k ad σ ++ WO o n v) sz) := by
  refine fw_L (S := Mem × Int64 × Value) (wf := fun u : Mem × Int64 × Value => W5 k ad u.1 ++ WO o u.2.1 u.2.2) (post := fun r u => post r u.1 u.2.1 u.2.2) (by decide) rfl (Nat.le_of_ble_eq_true rfl) ?_
  intro p e s m args below meth c A Q ls hC hN htb hP hD hl hret
  obtain ⟨⟨hx, hb, hml, hown, hts⟩, hG, hA⟩ := id hC
  have hK := hG.1
  have hS : va_S A s.heap s.heap [] := va_S.rf
  have hl : lv_has ls 4 [(0, .ref (ad 0)), (1, .int p1), (2, .ref o)] := hl
  have hown : s.vm.findClass RL = some m.cls := hown
  have hin_X6 : ∀ w ∈ u_ws RX6 TX6 2, w ∈ wq_L_value := fun w h => List.mem_cons_of_mem _ (iUB_X6 w h)
  unfold q_L_value at hp
  refine lv_aload_n hx hb dL_value_0 rfl (lv_at hl 2 rfl) ?_
  refine lv_aload_n hx hb dL_value_1 rfl (lv_at hl 0 rfl) ?_
  refine lv_iload_n hx hb dL_value_2 rfl (lv_at hl 1 rfl) ?_
  have hFc := va_free0 (D_left hD) hS hA
  refine vx_callr (vx_runV (g := F0 m 3 ls ([.int p1, .ref (ad 0), .ref o])) (As := [.int p1]) (rest := [.ref o]) hC.1 (c_X5_value l hflag D k ad hp) (cwV 1 hts (gB_V B_65 B_66 B_67 (iB_A _ A_25) (iB_A _ A_515)) rfl rfl rfl (by decide +kernel) ⟨Nat.le_of_ble_eq_true rfl, Nat.le_of_ble_eq_true rfl⟩) ⟨Pw_blind, va_recv hK hP (ci := 9) (q0 := 0) rfl rfl, fw_pre hC (P_left hP) (D_left hD) hS⟩ rfl rfl hl.1 rfl (lv_room (Nat.le_of_ble_eq_true rfl)) dL_value_3 ⟨Nat.le_of_ble_eq_true rfl, Nat.le_of_ble_eq_true rfl⟩) hS (fun q _ h => hFc q h) hFc (fun q _ h => hFc q h) ?_ ?_
  · intro E ce q9 u t H1 locs1 ht hvm hpx hB hz hk hS1 hcell hcv hcl
    obtain ⟨E1, σ1⟩ := u
    obtain ⟨hE, hP1, hD1⟩ := hB
    subst hE
    rw [ht] at hP1
    obtain ⟨hP2, hD2⟩ := Jn.left (wf := fun u : Mem => W5 k ad u) hP hD σ1 H1 hP1 hD1 hz hk hFc
    try dsimp only at hpx
    obtain ⟨rfl, hpx⟩ := hpx
    refine vx_catch (name := eIO) (E := eIO) hown [] (tbE (0, 9, 12, 27)) [] htb (fun z hz => by simp at hz) rfl (by decide) (hts _ (List.mem_cons_of_mem _ B_6)) (va_Nw.use rfl (GG.nc hG (q := ("java/lang/IndexOutOfBoundsException", "java/lang/IndexOutOfBoundsException")) 6 rfl)) hcell hcv hcl ?_
    refine lv_astore_n (lv' := [(3, .ref q9), (0, .ref (ad 0)), (1, .int p1), (2, .ref o)]) hx hb dL_value_12 rfl hl (by decide) rfl (fun ls hl => ?_)
    refine lv_iconst (v := 1) hx hb dL_value_13 (by decide) ?_
    exact hret 1 (σ1, n, v) _ _ _ _ _ _ dL_value_14 hP2 hD2 hS1 (Nat.le_of_ble_eq_true rfl) (Nat.le_of_ble_eq_true rfl) hpx
  · intro z ra t H1 locs1 ht hvm hpost hB hz hk hS1
    obtain ⟨r, σ1⟩ := z
    obtain ⟨hra, hP1, hD1⟩ := hB
    subst hra
    rw [ht] at hP1
    obtain ⟨hP, hD⟩ := Jn.left (wf := fun u : Mem => W5 k ad u) hP hD σ1 H1 hP1 hD1 hz hk hFc
    try dsimp only at hpost
    refine va_putN (D := D) (ci := 10) (v := .ref ra) (ty := .object "java/lang/String") (C := RX6) (T := TX6) (N := 2) hx hb hts hin_X6 tyX6 tyX6_ok nmX6 hown hK hP hD hS1 45 rfl rfl 1 (by decide) (va_Nw.use rfl (GG.nf hG (q := (RL, 89, "MeetjoinLaw$Out", "s", "Ljava/lang/String;", "MeetjoinLaw")) 1 rfl)) (fun _ h9 => h9) rfl (by decide +kernel) rfl rfl (Nat.le_of_ble_eq_true rfl) dL_value_6 (fun H locs hP hD hS => ?_)
    refine lv_goto (tgt := 15) hx hb dL_value_9 (by decide) ?_
    refine lv_iconst (v := 0) hx hb dL_value_15 (by decide) ?_
    exact hret 0 (σ1, n, .ref ra) _ _ _ _ _ _ dL_value_16 hP hD hS (Nat.le_of_ble_eq_true rfl) (Nat.le_of_ble_eq_true rfl) hpost
def q_L_reason (post : Int32 → Mem → Int64 → Value → Prop) (p1 : Int32) (n : Int64) (v : Value) (σ : Mem) : Prop := q_X5_reason (fun (r : Int32) (σ' : Mem) => post 0 σ' r.toInt64 v) (fun (E : String) (σ' : Mem) => (E = eIO ∧ post 1 σ' n v)) p1 σ
abbrev rm_L_reason : Room := { frames := 7, cells := 1, slots := 6, locals := 251 }
abbrev wq_L_reason : List Cond := Cond.codeWith yL_reason cL_reason 4 (some .int) [(0, 10, 13, 27)] :: wLAW
set_option maxHeartbeats 4000000 in
set_option maxRecDepth 100000 in
theorem c_L_reason (l : Launch) (hflag : l.stackTraces = false) (D : va_G) (k ad : Nat → Nat) (o : Nat) {sz : Nat} {σ : Mem} {n : Int64} {v : Value} {p1 : Int32} {post : Int32 → Mem → Int64 → Value → Prop} (hp : q_L_reason post p1 n v σ) : Met l yL_reason wq_L_reason rm_L_reason (va_Pc [.ref (ad 0), .int p1, .ref o] (PwL D k (W5 k ad σ ++ WO o n v) sz)) (va_Qi (fun r (u : Mem × Int64 × Value) => post r u.1 u.2.1 u.2.2) (fun u => Bw D (W5 k ad σ ++ WO o n v) sz (W5 k ad u.1 ++ WO o u.2.1 u.2.2)) (va_A (W5 k ad σ ++ WO o n v) sz)) 1 6 (va_A (W5 k ad σ ++ WO o n v) sz) := by
  refine fw_L (S := Mem × Int64 × Value) (wf := fun u : Mem × Int64 × Value => W5 k ad u.1 ++ WO o u.2.1 u.2.2) (post := fun r u => post r u.1 u.2.1 u.2.2) (by decide) rfl (Nat.le_of_ble_eq_true rfl) ?_
  intro p e s m args below meth c A Q ls hC hN htb hP hD hl hret
  obtain ⟨⟨hx, hb, hml, hown, hts⟩, hG, hA⟩ := id hC
  have hK := hG.1
  have hS : va_S A s.heap s.heap [] := va_S.rf
  have hl : lv_has ls 4 [(0, .ref (ad 0)), (1, .int p1), (2, .ref o)] := hl
  have hown : s.vm.findClass RL = some m.cls := hown
  have hin_X6 : ∀ w ∈ u_ws RX6 TX6 2, w ∈ wq_L_reason := fun w h => List.mem_cons_of_mem _ (iUB_X6 w h)
  unfold q_L_reason at hp
  refine lv_aload_n hx hb dL_reason_0 rfl (lv_at hl 2 rfl) ?_
  refine lv_aload_n hx hb dL_reason_1 rfl (lv_at hl 0 rfl) ?_
  refine lv_iload_n hx hb dL_reason_2 rfl (lv_at hl 1 rfl) ?_
  have hFc := va_free0 (D_left hD) hS hA
  refine vx_calli (vx_runV (g := F0 m 3 ls ([.int p1, .ref (ad 0), .ref o])) (As := [.int p1]) (rest := [.ref o]) hC.1 (c_X5_reason l hflag D k ad hp) (cwV 1 hts (gB_V B_69 (iB_A _ A_546) (iB_A _ A_547) (iB_A _ A_25) (iB_A _ A_516)) rfl rfl rfl (by decide +kernel) ⟨Nat.le_of_ble_eq_true rfl, Nat.le_of_ble_eq_true rfl⟩) ⟨Pw_blind, va_recv hK hP (ci := 9) (q0 := 0) rfl rfl, fw_pre hC (P_left hP) (D_left hD) hS⟩ rfl rfl hl.1 rfl (lv_room (Nat.le_of_ble_eq_true rfl)) dL_reason_3 ⟨Nat.le_of_ble_eq_true rfl, Nat.le_of_ble_eq_true rfl⟩) hS (fun q _ h => hFc q h) hFc (fun q _ h => hFc q h) ?_ ?_
  · intro E ce q9 u t H1 locs1 ht hvm hpx hB hz hk hS1 hcell hcv hcl
    obtain ⟨E1, σ1⟩ := u
    obtain ⟨hE, hP1, hD1⟩ := hB
    subst hE
    rw [ht] at hP1
    obtain ⟨hP2, hD2⟩ := Jn.left (wf := fun u : Mem => W5 k ad u) hP hD σ1 H1 hP1 hD1 hz hk hFc
    try dsimp only at hpx
    obtain ⟨rfl, hpx⟩ := hpx
    refine vx_catch (name := eIO) (E := eIO) hown [] (tbE (0, 10, 13, 27)) [] htb (fun z hz => by simp at hz) rfl (by decide) (hts _ (List.mem_cons_of_mem _ B_6)) (va_Nw.use rfl (GG.nc hG (q := ("java/lang/IndexOutOfBoundsException", "java/lang/IndexOutOfBoundsException")) 6 rfl)) hcell hcv hcl ?_
    refine lv_astore_n (lv' := [(3, .ref q9), (0, .ref (ad 0)), (1, .int p1), (2, .ref o)]) hx hb dL_reason_13 rfl hl (by decide) rfl (fun ls hl => ?_)
    refine lv_iconst (v := 1) hx hb dL_reason_14 (by decide) ?_
    exact hret 1 (σ1, n, v) _ _ _ _ _ _ dL_reason_15 hP2 hD2 hS1 (Nat.le_of_ble_eq_true rfl) (Nat.le_of_ble_eq_true rfl) hpx
  · intro r σ1 t H1 locs1 ht hvm hpost hB hz hk hS1
    obtain ⟨hP1, hD1⟩ := hB
    rw [ht] at hP1
    obtain ⟨hP, hD⟩ := Jn.left (wf := fun u : Mem => W5 k ad u) hP hD σ1 H1 hP1 hD1 hz hk hFc
    try dsimp only at hpost
    refine lv_i2l (v := r.toInt64) hx hb dL_reason_6 rfl ?_
    refine va_putN (D := D) (ci := 10) (v := .long r.toInt64) (ty := .long) (C := RX6) (T := TX6) (N := 2) hx hb hts hin_X6 tyX6 tyX6_ok nmX6 hown hK hP hD hS1 45 rfl rfl 0 (by decide) (va_Nw.use rfl (GG.nf hG (q := (RL, 13, "MeetjoinLaw$Out", "n", "J", "MeetjoinLaw")) 0 rfl)) (fun _ h9 => h9) rfl (by decide +kernel) rfl rfl (Nat.le_of_ble_eq_true rfl) dL_reason_7 (fun H locs hP hD hS => ?_)
    refine lv_goto (tgt := 16) hx hb dL_reason_10 (by decide) ?_
    refine lv_iconst (v := 0) hx hb dL_reason_16 (by decide) ?_
    exact hret 0 (σ1, r.toInt64, v) _ _ _ _ _ _ dL_reason_17 hP hD hS (Nat.le_of_ble_eq_true rfl) (Nat.le_of_ble_eq_true rfl) hpost
def q_L_met (post : Int32 → Mem → Int64 → Value → Prop) (p1 : Int32) (p2 : Int32) (n : Int64) (v : Value) (σ : Mem) : Prop := q_X5_met (fun (r : Int32) (σ' : Mem) => post 0 σ' r.toInt64 v) (fun (E : String) (σ' : Mem) => (E = eIO ∧ post 1 σ' n v) ∨ (E = eIA ∧ post 2 σ' n v)) p1 p2 σ
abbrev rm_L_met : Room := { frames := 7, cells := 1, slots := 6, locals := 252 }
abbrev wq_L_met : List Cond := Cond.codeWith yL_met cL_met 5 (some .int) [(0, 11, 14, 27), (0, 11, 18, 19)] :: wLAW
set_option maxHeartbeats 4000000 in
set_option maxRecDepth 100000 in
theorem c_L_met (l : Launch) (hflag : l.stackTraces = false) (D : va_G) (k ad : Nat → Nat) (o : Nat) {sz : Nat} {σ : Mem} {n : Int64} {v : Value} {p1 : Int32} {p2 : Int32} {post : Int32 → Mem → Int64 → Value → Prop} (hp : q_L_met post p1 p2 n v σ) : Met l yL_met wq_L_met rm_L_met (va_Pc [.ref (ad 0), .int p1, .int p2, .ref o] (PwL D k (W5 k ad σ ++ WO o n v) sz)) (va_Qi (fun r (u : Mem × Int64 × Value) => post r u.1 u.2.1 u.2.2) (fun u => Bw D (W5 k ad σ ++ WO o n v) sz (W5 k ad u.1 ++ WO o u.2.1 u.2.2)) (va_A (W5 k ad σ ++ WO o n v) sz)) 1 6 (va_A (W5 k ad σ ++ WO o n v) sz) := by
  refine fw_L (S := Mem × Int64 × Value) (wf := fun u : Mem × Int64 × Value => W5 k ad u.1 ++ WO o u.2.1 u.2.2) (post := fun r u => post r u.1 u.2.1 u.2.2) (by decide) rfl (Nat.le_of_ble_eq_true rfl) ?_
  intro p e s m args below meth c A Q ls hC hN htb hP hD hl hret
  obtain ⟨⟨hx, hb, hml, hown, hts⟩, hG, hA⟩ := id hC
  have hK := hG.1
  have hS : va_S A s.heap s.heap [] := va_S.rf
  have hl : lv_has ls 5 [(0, .ref (ad 0)), (1, .int p1), (2, .int p2), (3, .ref o)] := hl
  have hown : s.vm.findClass RL = some m.cls := hown
  have hin_X6 : ∀ w ∈ u_ws RX6 TX6 2, w ∈ wq_L_met := fun w h => List.mem_cons_of_mem _ (iUB_X6 w h)
  unfold q_L_met at hp
  refine lv_aload_n hx hb dL_met_0 rfl (lv_at hl 3 rfl) ?_
  refine lv_aload_n hx hb dL_met_1 rfl (lv_at hl 0 rfl) ?_
  refine lv_iload_n hx hb dL_met_2 rfl (lv_at hl 1 rfl) ?_
  refine lv_iload_n hx hb dL_met_3 rfl (lv_at hl 2 rfl) ?_
  have hFc := va_free0 (D_left hD) hS hA
  refine vx_calli (vx_runV (g := F0 m 4 ls ([.int p2, .int p1, .ref (ad 0), .ref o])) (As := [.int p1, .int p2]) (rest := [.ref o]) hC.1 (c_X5_met l hflag D k ad hp) (cwV 2 hts (gB_V B_71 B_72 B_73 (iB_A _ A_25) (iB_A _ A_519)) rfl rfl rfl (by decide +kernel) ⟨Nat.le_of_ble_eq_true rfl, Nat.le_of_ble_eq_true rfl⟩) ⟨Pw_blind, va_recv hK hP (ci := 9) (q0 := 0) rfl rfl, fw_pre hC (P_left hP) (D_left hD) hS⟩ rfl rfl hl.1 rfl (lv_room (Nat.le_of_ble_eq_true rfl)) dL_met_4 ⟨Nat.le_of_ble_eq_true rfl, Nat.le_of_ble_eq_true rfl⟩) hS (fun q _ h => hFc q h) hFc (fun q _ h => hFc q h) ?_ ?_
  · intro E ce q9 u t H1 locs1 ht hvm hpx hB hz hk hS1 hcell hcv hcl
    obtain ⟨E1, σ1⟩ := u
    obtain ⟨hE, hP1, hD1⟩ := hB
    subst hE
    rw [ht] at hP1
    obtain ⟨hP2, hD2⟩ := Jn.left (wf := fun u : Mem => W5 k ad u) hP hD σ1 H1 hP1 hD1 hz hk hFc
    try dsimp only at hpx
    rcases hpx with ⟨rfl, hpx⟩ | ⟨rfl, hpx⟩
    · refine vx_catch (name := eIO) (E := eIO) hown [] (tbE (0, 11, 14, 27)) [tbE (0, 11, 18, 19)] htb (fun z hz => by simp at hz) rfl (by decide) (hts _ (List.mem_cons_of_mem _ B_6)) (va_Nw.use rfl (GG.nc hG (q := ("java/lang/IndexOutOfBoundsException", "java/lang/IndexOutOfBoundsException")) 6 rfl)) hcell hcv hcl ?_
      refine lv_astore (lv' := [(4, .ref q9), (0, .ref (ad 0)), (1, .int p1), (2, .int p2), (3, .ref o)]) hx hb dL_met_14 hl (by decide) rfl (fun ls hl => ?_)
      refine lv_iconst (v := 1) hx hb dL_met_16 (by decide) ?_
      exact hret 1 (σ1, n, v) _ _ _ _ _ _ dL_met_17 hP2 hD2 hS1 (Nat.le_of_ble_eq_true rfl) (Nat.le_of_ble_eq_true rfl) hpx
    · refine vx_catch (name := eIA) (E := eIA) hown [tbE (0, 11, 14, 27)] (tbE (0, 11, 18, 19)) [] htb (fun z hz => by obtain rfl := List.mem_singleton.mp hz; exact Or.inr ⟨by decide, eIO, (hts _ (List.mem_cons_of_mem _ B_6)), hN.2.1⟩) rfl (by decide) (hts _ (List.mem_cons_of_mem _ B_0)) (va_Nw.use rfl (GG.nc hG (q := ("java/lang/IllegalArgumentException", "java/lang/IllegalArgumentException")) 4 rfl)) hcell hcv hcl ?_
      refine lv_astore (lv' := [(4, .ref q9), (0, .ref (ad 0)), (1, .int p1), (2, .int p2), (3, .ref o)]) hx hb dL_met_18 hl (by decide) rfl (fun ls hl => ?_)
      refine lv_iconst (v := 2) hx hb dL_met_20 (by decide) ?_
      exact hret 2 (σ1, n, v) _ _ _ _ _ _ dL_met_21 hP2 hD2 hS1 (Nat.le_of_ble_eq_true rfl) (Nat.le_of_ble_eq_true rfl) hpx
  · intro r σ1 t H1 locs1 ht hvm hpost hB hz hk hS1
    obtain ⟨hP1, hD1⟩ := hB
    rw [ht] at hP1
    obtain ⟨hP, hD⟩ := Jn.left (wf := fun u : Mem => W5 k ad u) hP hD σ1 H1 hP1 hD1 hz hk hFc
    try dsimp only at hpost
    refine lv_i2l (v := r.toInt64) hx hb dL_met_7 rfl ?_
    refine va_putN (D := D) (ci := 10) (v := .long r.toInt64) (ty := .long) (C := RX6) (T := TX6) (N := 2) hx hb hts hin_X6 tyX6 tyX6_ok nmX6 hown hK hP hD hS1 45 rfl rfl 0 (by decide) (va_Nw.use rfl (GG.nf hG (q := (RL, 13, "MeetjoinLaw$Out", "n", "J", "MeetjoinLaw")) 0 rfl)) (fun _ h9 => h9) rfl (by decide +kernel) rfl rfl (Nat.le_of_ble_eq_true rfl) dL_met_8 (fun H locs hP hD hS => ?_)
    refine lv_goto (tgt := 22) hx hb dL_met_11 (by decide) ?_
    refine lv_iconst (v := 0) hx hb dL_met_22 (by decide) ?_
    exact hret 0 (σ1, r.toInt64, v) _ _ _ _ _ _ dL_met_23 hP hD hS (Nat.le_of_ble_eq_true rfl) (Nat.le_of_ble_eq_true rfl) hpost
def q_L_choices (post : Int32 → Mem → Int64 → Value → Prop) (p1 : Int32) (p2 : Int32) (n : Int64) (v : Value) (σ : Mem) : Prop := q_X5_choices (fun (r : Int32) (σ' : Mem) => post 0 σ' r.toInt64 v) (fun (E : String) (σ' : Mem) => (E = eIO ∧ post 1 σ' n v) ∨ (E = eIA ∧ post 2 σ' n v)) p1 p2 σ
abbrev rm_L_choices : Room := { frames := 19, cells := 1, slots := 6, locals := 938 }
abbrev wq_L_choices : List Cond := Cond.codeWith yL_choices cL_choices 5 (some .int) [(0, 11, 14, 27), (0, 11, 18, 19)] :: wLAW
set_option maxHeartbeats 4000000 in
set_option maxRecDepth 100000 in
theorem c_L_choices (l : Launch) (hflag : l.stackTraces = false) (D : va_G) (k ad : Nat → Nat) (o : Nat) {sz : Nat} {σ : Mem} {n : Int64} {v : Value} {p1 : Int32} {p2 : Int32} {post : Int32 → Mem → Int64 → Value → Prop} (hp : q_L_choices post p1 p2 n v σ) : Met l yL_choices wq_L_choices rm_L_choices (va_Pc [.ref (ad 0), .int p1, .int p2, .ref o] (PwL D k (W5 k ad σ ++ WO o n v) sz)) (va_Qi (fun r (u : Mem × Int64 × Value) => post r u.1 u.2.1 u.2.2) (fun u => Bw D (W5 k ad σ ++ WO o n v) sz (W5 k ad u.1 ++ WO o u.2.1 u.2.2)) (va_A (W5 k ad σ ++ WO o n v) sz)) 1 6 (va_A (W5 k ad σ ++ WO o n v) sz) := by
  refine fw_L (S := Mem × Int64 × Value) (wf := fun u : Mem × Int64 × Value => W5 k ad u.1 ++ WO o u.2.1 u.2.2) (post := fun r u => post r u.1 u.2.1 u.2.2) (by decide) rfl (Nat.le_of_ble_eq_true rfl) ?_
  intro p e s m args below meth c A Q ls hC hN htb hP hD hl hret
  obtain ⟨⟨hx, hb, hml, hown, hts⟩, hG, hA⟩ := id hC
  have hK := hG.1
  have hS : va_S A s.heap s.heap [] := va_S.rf
  have hl : lv_has ls 5 [(0, .ref (ad 0)), (1, .int p1), (2, .int p2), (3, .ref o)] := hl
  have hown : s.vm.findClass RL = some m.cls := hown
  have hin_X6 : ∀ w ∈ u_ws RX6 TX6 2, w ∈ wq_L_choices := fun w h => List.mem_cons_of_mem _ (iUB_X6 w h)
  unfold q_L_choices at hp
  refine lv_aload_n hx hb dL_choices_0 rfl (lv_at hl 3 rfl) ?_
  refine lv_aload_n hx hb dL_choices_1 rfl (lv_at hl 0 rfl) ?_
  refine lv_iload_n hx hb dL_choices_2 rfl (lv_at hl 1 rfl) ?_
  refine lv_iload_n hx hb dL_choices_3 rfl (lv_at hl 2 rfl) ?_
  have hFc := va_free0 (D_left hD) hS hA
  refine vx_calli (vx_runV (g := F0 m 4 ls ([.int p2, .int p1, .ref (ad 0), .ref o])) (As := [.int p1, .int p2]) (rest := [.ref o]) hC.1 (c_X5_choices l hflag D k ad hp) (cwV 2 hts (gB_V B_75 B_76 B_77 (iB_A _ A_25) (iB_A _ A_523)) rfl rfl rfl (by decide +kernel) ⟨Nat.le_of_ble_eq_true rfl, Nat.le_of_ble_eq_true rfl⟩) ⟨Pw_blind, va_recv hK hP (ci := 9) (q0 := 0) rfl rfl, fw_pre hC (P_left hP) (D_left hD) hS⟩ rfl rfl hl.1 rfl (lv_room (Nat.le_of_ble_eq_true rfl)) dL_choices_4 ⟨Nat.le_of_ble_eq_true rfl, Nat.le_of_ble_eq_true rfl⟩) hS (fun q _ h => hFc q h) hFc (fun q _ h => hFc q h) ?_ ?_
  · intro E ce q9 u t H1 locs1 ht hvm hpx hB hz hk hS1 hcell hcv hcl
    obtain ⟨E1, σ1⟩ := u
    obtain ⟨hE, hP1, hD1⟩ := hB
    subst hE
    rw [ht] at hP1
    obtain ⟨hP2, hD2⟩ := Jn.left (wf := fun u : Mem => W5 k ad u) hP hD σ1 H1 hP1 hD1 hz hk hFc
    try dsimp only at hpx
    rcases hpx with ⟨rfl, hpx⟩ | ⟨rfl, hpx⟩
    · refine vx_catch (name := eIO) (E := eIO) hown [] (tbE (0, 11, 14, 27)) [tbE (0, 11, 18, 19)] htb (fun z hz => by simp at hz) rfl (by decide) (hts _ (List.mem_cons_of_mem _ B_6)) (va_Nw.use rfl (GG.nc hG (q := ("java/lang/IndexOutOfBoundsException", "java/lang/IndexOutOfBoundsException")) 6 rfl)) hcell hcv hcl ?_
      refine lv_astore (lv' := [(4, .ref q9), (0, .ref (ad 0)), (1, .int p1), (2, .int p2), (3, .ref o)]) hx hb dL_choices_14 hl (by decide) rfl (fun ls hl => ?_)
      refine lv_iconst (v := 1) hx hb dL_choices_16 (by decide) ?_
      exact hret 1 (σ1, n, v) _ _ _ _ _ _ dL_choices_17 hP2 hD2 hS1 (Nat.le_of_ble_eq_true rfl) (Nat.le_of_ble_eq_true rfl) hpx
    · refine vx_catch (name := eIA) (E := eIA) hown [tbE (0, 11, 14, 27)] (tbE (0, 11, 18, 19)) [] htb (fun z hz => by obtain rfl := List.mem_singleton.mp hz; exact Or.inr ⟨by decide, eIO, (hts _ (List.mem_cons_of_mem _ B_6)), hN.2.1⟩) rfl (by decide) (hts _ (List.mem_cons_of_mem _ B_0)) (va_Nw.use rfl (GG.nc hG (q := ("java/lang/IllegalArgumentException", "java/lang/IllegalArgumentException")) 4 rfl)) hcell hcv hcl ?_
      refine lv_astore (lv' := [(4, .ref q9), (0, .ref (ad 0)), (1, .int p1), (2, .int p2), (3, .ref o)]) hx hb dL_choices_18 hl (by decide) rfl (fun ls hl => ?_)
      refine lv_iconst (v := 2) hx hb dL_choices_20 (by decide) ?_
      exact hret 2 (σ1, n, v) _ _ _ _ _ _ dL_choices_21 hP2 hD2 hS1 (Nat.le_of_ble_eq_true rfl) (Nat.le_of_ble_eq_true rfl) hpx
  · intro r σ1 t H1 locs1 ht hvm hpost hB hz hk hS1
    obtain ⟨hP1, hD1⟩ := hB
    rw [ht] at hP1
    obtain ⟨hP, hD⟩ := Jn.left (wf := fun u : Mem => W5 k ad u) hP hD σ1 H1 hP1 hD1 hz hk hFc
    try dsimp only at hpost
    refine lv_i2l (v := r.toInt64) hx hb dL_choices_7 rfl ?_
    refine va_putN (D := D) (ci := 10) (v := .long r.toInt64) (ty := .long) (C := RX6) (T := TX6) (N := 2) hx hb hts hin_X6 tyX6 tyX6_ok nmX6 hown hK hP hD hS1 45 rfl rfl 0 (by decide) (va_Nw.use rfl (GG.nf hG (q := (RL, 13, "MeetjoinLaw$Out", "n", "J", "MeetjoinLaw")) 0 rfl)) (fun _ h9 => h9) rfl (by decide +kernel) rfl rfl (Nat.le_of_ble_eq_true rfl) dL_choices_8 (fun H locs hP hD hS => ?_)
    refine lv_goto (tgt := 22) hx hb dL_choices_11 (by decide) ?_
    refine lv_iconst (v := 0) hx hb dL_choices_22 (by decide) ?_
    exact hret 0 (σ1, r.toInt64, v) _ _ _ _ _ _ dL_choices_23 hP hD hS (Nat.le_of_ble_eq_true rfl) (Nat.le_of_ble_eq_true rfl) hpost
def q_L_isNarrower (post : Int32 → Mem → Int64 → Value → Prop) (p1 : Int32) (p2 : Int32) (n : Int64) (v : Value) (σ : Mem) : Prop := q_X5_isNarrower (fun (r : Int32) (σ' : Mem) => ((r ≠ 0 → post 0 σ' 1 v) ∧ (r = 0 → post 0 σ' 0 v))) (fun (E : String) (σ' : Mem) => (E = eIO ∧ post 1 σ' n v)) p1 p2 σ
abbrev rm_L_isNarrower : Room := { frames := 7, cells := 1, slots := 6, locals := 252 }
abbrev wq_L_isNarrower : List Cond := Cond.codeWith yL_isNarrower cL_isNarrower 5 (some .int) [(0, 18, 21, 27)] :: wLAW
set_option maxHeartbeats 4000000 in
set_option maxRecDepth 100000 in
theorem c_L_isNarrower (l : Launch) (hflag : l.stackTraces = false) (D : va_G) (k ad : Nat → Nat) (o : Nat) {sz : Nat} {σ : Mem} {n : Int64} {v : Value} {p1 : Int32} {p2 : Int32} {post : Int32 → Mem → Int64 → Value → Prop} (hp : q_L_isNarrower post p1 p2 n v σ) : Met l yL_isNarrower wq_L_isNarrower rm_L_isNarrower (va_Pc [.ref (ad 0), .int p1, .int p2, .ref o] (PwL D k (W5 k ad σ ++ WO o n v) sz)) (va_Qi (fun r (u : Mem × Int64 × Value) => post r u.1 u.2.1 u.2.2) (fun u => Bw D (W5 k ad σ ++ WO o n v) sz (W5 k ad u.1 ++ WO o u.2.1 u.2.2)) (va_A (W5 k ad σ ++ WO o n v) sz)) 1 6 (va_A (W5 k ad σ ++ WO o n v) sz) := by
  refine fw_L (S := Mem × Int64 × Value) (wf := fun u : Mem × Int64 × Value => W5 k ad u.1 ++ WO o u.2.1 u.2.2) (post := fun r u => post r u.1 u.2.1 u.2.2) (by decide) rfl (Nat.le_of_ble_eq_true rfl) ?_
  intro p e s m args below meth c A Q ls hC hN htb hP hD hl hret
  obtain ⟨⟨hx, hb, hml, hown, hts⟩, hG, hA⟩ := id hC
  have hK := hG.1
  have hS : va_S A s.heap s.heap [] := va_S.rf
  have hl : lv_has ls 5 [(0, .ref (ad 0)), (1, .int p1), (2, .int p2), (3, .ref o)] := hl
  have hown : s.vm.findClass RL = some m.cls := hown
  have hin_X6 : ∀ w ∈ u_ws RX6 TX6 2, w ∈ wq_L_isNarrower := fun w h => List.mem_cons_of_mem _ (iUB_X6 w h)
  unfold q_L_isNarrower at hp
  refine lv_aload_n hx hb dL_isNarrower_0 rfl (lv_at hl 3 rfl) ?_
  refine lv_aload_n hx hb dL_isNarrower_1 rfl (lv_at hl 0 rfl) ?_
  refine lv_iload_n hx hb dL_isNarrower_2 rfl (lv_at hl 1 rfl) ?_
  refine lv_iload_n hx hb dL_isNarrower_3 rfl (lv_at hl 2 rfl) ?_
  have hFc := va_free0 (D_left hD) hS hA
  refine vx_calli (vx_runV (g := F0 m 4 ls ([.int p2, .int p1, .ref (ad 0), .ref o])) (As := [.int p1, .int p2]) (rest := [.ref o]) hC.1 (c_X5_isNarrower l hflag D k ad hp) (cwV 2 hts (gB_V B_218 B_219 B_220 (iB_A _ A_25) (iB_A _ A_524)) rfl rfl rfl (by decide +kernel) ⟨Nat.le_of_ble_eq_true rfl, Nat.le_of_ble_eq_true rfl⟩) ⟨Pw_blind, va_recv hK hP (ci := 9) (q0 := 0) rfl rfl, fw_pre hC (P_left hP) (D_left hD) hS⟩ rfl rfl hl.1 rfl (lv_room (Nat.le_of_ble_eq_true rfl)) dL_isNarrower_4 ⟨Nat.le_of_ble_eq_true rfl, Nat.le_of_ble_eq_true rfl⟩) hS (fun q _ h => hFc q h) hFc (fun q _ h => hFc q h) ?_ ?_
  · intro E ce q9 u t H1 locs1 ht hvm hpx hB hz hk hS1 hcell hcv hcl
    obtain ⟨E1, σ1⟩ := u
    obtain ⟨hE, hP1, hD1⟩ := hB
    subst hE
    rw [ht] at hP1
    obtain ⟨hP2, hD2⟩ := Jn.left (wf := fun u : Mem => W5 k ad u) hP hD σ1 H1 hP1 hD1 hz hk hFc
    try dsimp only at hpx
    obtain ⟨rfl, hpx⟩ := hpx
    refine vx_catch (name := eIO) (E := eIO) hown [] (tbE (0, 18, 21, 27)) [] htb (fun z hz => by simp at hz) rfl (by decide) (hts _ (List.mem_cons_of_mem _ B_6)) (va_Nw.use rfl (GG.nc hG (q := ("java/lang/IndexOutOfBoundsException", "java/lang/IndexOutOfBoundsException")) 6 rfl)) hcell hcv hcl ?_
    refine lv_astore (lv' := [(4, .ref q9), (0, .ref (ad 0)), (1, .int p1), (2, .int p2), (3, .ref o)]) hx hb dL_isNarrower_21 hl (by decide) rfl (fun ls hl => ?_)
    refine lv_iconst (v := 1) hx hb dL_isNarrower_23 (by decide) ?_
    exact hret 1 (σ1, n, v) _ _ _ _ _ _ dL_isNarrower_24 hP2 hD2 hS1 (Nat.le_of_ble_eq_true rfl) (Nat.le_of_ble_eq_true rfl) hpx
  · intro r σ1 t H1 locs1 ht hvm hpost hB hz hk hS1
    obtain ⟨hP1, hD1⟩ := hB
    rw [ht] at hP1
    obtain ⟨hP, hD⟩ := Jn.left (wf := fun u : Mem => W5 k ad u) hP hD σ1 H1 hP1 hD1 hz hk hFc
    try dsimp only at hpost
    refine lv_if_eq (tgt := 14) hx hb dL_isNarrower_7 (by decide) (fun c9 => ?_) (fun c9 => ?_)
    · refine lv_lconst (v := 0) hx hb dL_isNarrower_14 (by decide) ?_
      refine va_putN (D := D) (ci := 10) (v := .long 0) (ty := .long) (C := RX6) (T := TX6) (N := 2) hx hb hts hin_X6 tyX6 tyX6_ok nmX6 hown hK hP hD hS1 45 rfl rfl 0 (by decide) (va_Nw.use rfl (GG.nf hG (q := (RL, 13, "MeetjoinLaw$Out", "n", "J", "MeetjoinLaw")) 0 rfl)) (fun _ h9 => h9) rfl (by decide +kernel) rfl rfl (Nat.le_of_ble_eq_true rfl) dL_isNarrower_15 (fun H locs hP hD hS => ?_)
      refine lv_goto (tgt := 25) hx hb dL_isNarrower_18 (by decide) ?_
      refine lv_iconst (v := 0) hx hb dL_isNarrower_25 (by decide) ?_
      exact hret 0 (σ1, 0, v) _ _ _ _ _ _ dL_isNarrower_26 hP hD hS (Nat.le_of_ble_eq_true rfl) (Nat.le_of_ble_eq_true rfl) (hpost.2 c9)
    · refine lv_lconst (v := 1) hx hb dL_isNarrower_10 (by decide) ?_
      refine lv_goto (tgt := 15) hx hb dL_isNarrower_11 (by decide) ?_
      refine va_putN (D := D) (ci := 10) (v := .long 1) (ty := .long) (C := RX6) (T := TX6) (N := 2) hx hb hts hin_X6 tyX6 tyX6_ok nmX6 hown hK hP hD hS1 45 rfl rfl 0 (by decide) (va_Nw.use rfl (GG.nf hG (q := (RL, 13, "MeetjoinLaw$Out", "n", "J", "MeetjoinLaw")) 0 rfl)) (fun _ h9 => h9) rfl (by decide +kernel) rfl rfl (Nat.le_of_ble_eq_true rfl) dL_isNarrower_15 (fun H locs hP hD hS => ?_)
      refine lv_goto (tgt := 25) hx hb dL_isNarrower_18 (by decide) ?_
      refine lv_iconst (v := 0) hx hb dL_isNarrower_25 (by decide) ?_
      exact hret 0 (σ1, 1, v) _ _ _ _ _ _ dL_isNarrower_26 hP hD hS (Nat.le_of_ble_eq_true rfl) (Nat.le_of_ble_eq_true rfl) (hpost.1 c9)
