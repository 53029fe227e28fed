/-! THE LAW'S CASES -/
theorem gT (z : List Cond) (h : ∀ w ∈ z, w ∈ wLAW ∧ goodWord w = true) : GoodIn wLAW z := fun w hw => ⟨(h w hw).1, good_of_word (h w hw).2⟩
theorem iG {w : Cond} (h : w ∈ wLAW) : w ∈ wLAW ∧ goodWord w = true := ⟨h, gLAW w h⟩
theorem mV2 {own C : String} {idx : Nat} {y : MethodName} {c : Cond} (h1 : Cond.methodLink own idx y ∈ wLAW) (h2 : Cond.instanceMethod y ∈ wLAW) (h3 : Cond.selects C y y ∈ wLAW) (h4 : Cond.initialized C ∈ wLAW) (hc : c ∈ wLAW) : ∀ w ∈ wsV own idx C y (c :: wALL), w ∈ wLAW ∧ goodWord w = true := by
  intro w hw
  rcases List.mem_append.mp hw with h | h
  · rcases List.mem_cons.mp h with rfl | h
    · exact iG h1
    · rcases List.mem_cons.mp h with rfl | h
      · exact iG h2
      · rcases List.mem_cons.mp h with rfl | h
        · exact iG h3
        · rcases List.mem_cons.mp h with rfl | h
          · exact iG h4
          · simp at h
  · exact iG ((List.mem_cons.mp h).elim (fun e => e ▸ hc) (iB_A w))
theorem mS2 {own : String} {idx : Nat} {y : MethodName} {c : Cond} (h1 : Cond.methodLink own idx y ∈ wLAW) (h2 : Cond.static y ∈ wLAW) (h4 : Cond.initialized y.cls ∈ wLAW) (hc : c ∈ wLAW) : ∀ w ∈ va_wsS own idx y (c :: wLAW), w ∈ wLAW ∧ goodWord w = true := by
  intro w hw
  rcases List.mem_append.mp hw with h | h
  · rcases List.mem_cons.mp h with rfl | h
    · exact iG h1
    · rcases List.mem_cons.mp h with rfl | h
      · exact iG h2
      · rcases List.mem_cons.mp h with rfl | h
        · exact iG h4
        · simp at h
  · exact iG ((List.mem_cons.mp h).elim (fun e => e ▸ hc) id)
section FSL
variable {p : Program} {l : Launch} {e : Env} {R : Room} {s : State} {m : MethodId} {args : Array Value} {below : List Frame} {meth : Method} {c : Code} {H : Heap} {locs : List Loc} {cells slots : Nat} {Q : State → Prop}
variable {S : Type} {y : MethodName} {wsy Ts : List Cond} {rmy : Room} {bytes cc : ByteArray} {maxL nL mc ms n index pc : Nat} {ret : Option FieldType} {own : String} {As rest st : List Value} {wc : va_W} {wf wN : S → va_W} {D : va_G} {k : Nat → Nat} {A : Nat → Prop} {ls : Array Slot} {hh : List (Nat × Nat × Nat × Nat)}
theorem fw_ciSL {post : Int32 → S → Prop} (hC : Cx p m c cc nL s args Ts own D k A) (hN : NC s)
    (hM : Met l y wsy rmy (va_Pc As (PwL D k wc H.size)) (va_Qi post (fun u => Bw D wc H.size (wf u)) (va_A wc H.size)) mc ms (va_A wc H.size))
    (cw : vx_CSW R s args own index y bytes maxL ret hh wsy rmy mc ms n)
    (hn : As.length = n) (hsz : ls.size = nL) (hst : st = As.reverse ++ rest) (hW : (rest.map fun v => v.category).sum ≤ 8) (hdg : decode cc pc = .ok (.invokestatic index, 3)) (hf : cells + mc ≤ R.cells ∧ slots + ms ≤ R.slots)
    (hPc : va_P D vwCl wc H) (hDc : va_D A wc) (hS : va_S A s.heap H locs) (J : Jn D A wc H wf wN)
    (kk : ∀ (r : Int32) (u : S) (H1 : Heap) (locs1 : List Loc), va_P D vwCl (wN u) H1 → va_D A (wN u) → va_S A s.heap H1 locs1 → post r u → W p l e R s m args below meth c H1 locs1 (cells + mc) (slots + ms) Q (F0 m (pc + 3) ls (.int r :: rest))) :
    W p l e R s m args below meth c H locs cells slots Q (F0 m pc ls st) := by
  have hFc := va_free0 hDc hS hC.2.2
  refine va_calli (vx_runSW (As := As) (rest := rest) hC.1 hM cw ⟨PwL_blind, fun U hU hW => ⟨(fw_pre hC hPc hDc hS (av := As) U hU hW).1, (fw_pre hC hPc hDc hS (av := As) U hU hW).2, hN.moved hW.alike⟩⟩ rfl hn hsz hst (lv_room hW) hdg hf) hS (fun q _ h => hFc q h) hFc (fun r u t H1 locs1 ht hvm hq hB hz1 hk1 hS1 => ?_)
  obtain ⟨hP1, hD1⟩ := hB
  rw [ht] at hP1
  obtain ⟨hP2, hD2⟩ := J u H1 hP1 hD1 hz1 hk1 hFc
  exact kk r u H1 locs1 hP2 hD2 hS1 hq
end FSL
def q_case_0 (nx : Mem → Int64 → Value → (Nat → Nat) → (Nat → Nat) → Mem → Prop) (a1 a2 a3 a4 : Int32) (σ : Mem) (n : Int64) (v : Value) (am g : Nat → Nat) (τ : Mem) : Prop := (q_L_field (fun (k1 : Int32) (σ2 : Mem) (n3 : Int64) (v4 : Value) => (q_X8_field (g 0) (g 2) (fun (r5 : Int32) (τ6 : Mem) => nx σ2 n3 v4 am g τ6) a1 τ)) a1 n v σ)
set_option maxHeartbeats 4000000 in
set_option maxRecDepth 100000 in
theorem cs_0 {p : Program} {e : Env} {s : State} {m : MethodId} {below : List Frame} {meth : Method} {c : Code} (l : Launch) (hflag : l.stackTraces = false) {b L : Nat} {xs : Nat → Int32} (C0 : lw_At p s m meth c b L xs) {D : va_G} {k : Nat → Nat} (hG : GG D k (fun q : Nat => s.heap.size ≤ q) s s.heap) (hN : NC s) {ad am g : Nat → Nat} {o : Nat} {σ τ : Mem} {n : Int64} {v : Value} {x4 a1 a2 a3 a4 : Int32} (hi1 : vp_in (x4 + 1) L) (hi2 : vp_in (x4 + 2) L) (hi3 : vp_in (x4 + 3) L) (hi4 : vp_in (x4 + 4) L) (ha1 : xs (x4 + 1).toNatClampNeg = a1) (ha2 : xs (x4 + 2).toNatClampNeg = a2) (ha3 : xs (x4 + 3).toNatClampNeg = a3) (ha4 : xs (x4 + 4).toNatClampNeg = a4) (hgk : gk g) {cells slots : Nat} (hcl : cells + 100 ≤ 601024) (hsl : slots + 1000 ≤ 7293034) {H : Heap} {locs : List Loc} {ls : Array Slot} {Q : State → Prop} {nx : Mem → Int64 → Value → (Nat → Nat) → (Nat → Nat) → Mem → Prop} (hP : va_P D vwCl ((W5 k ad σ ++ WO o n v) ++ WM k am g τ) H) (hD : va_D (fun q : Nat => s.heap.size ≤ q) ((W5 k ad σ ++ WO o n v) ++ WM k am g τ)) (hS : va_S (fun q : Nat => s.heap.size ≤ q) s.heap H locs) (hl : lv_has ls 7 [(0, .ref b), (1, .ref (ad 0)), (2, .ref (am 0)), (3, .ref o), (4, .int x4)]) (hp : q_case_0 nx a1 a2 a3 a4 σ n v am g τ) (K : ∀ (σ' : Mem) (n' : Int64) (v' : Value) (am' g' : Nat → Nat) (τ' : Mem) (H' : Heap) (locs' : List Loc) (cells' slots' : Nat) (ls' : Array Slot), gk g' → nx σ' n' v' am' g' τ' → va_P D vwCl ((W5 k ad σ' ++ WO o n' v') ++ WM k am' g' τ') H' → va_D (fun q : Nat => s.heap.size ≤ q) ((W5 k ad σ' ++ WO o n' v') ++ WM k am' g' τ') → va_S (fun q : Nat => s.heap.size ≤ q) s.heap H' locs' → cells' ≤ cells + 100 → slots' ≤ slots + 1000 → lv_has ls' 7 [(0, .ref b), (1, .ref (ad 0)), (2, .ref (am' 0)), (3, .ref o), (4, .int x4)] → W p l e room_1 s m #[Value.ref b] below meth c H' locs' cells' slots' Q (F0 m 1248 ls' [])) : W p l e room_1 s m #[Value.ref b] below meth c H locs cells slots Q (F0 m 164 ls []) := by
  obtain ⟨hx, hb, hr, hml, hown, hts0, hX, hbl, hlocks, hgv⟩ := id C0
  have hts : ∀ w ∈ wLAW, w.before #[Value.ref b] s = true := jLAW hts0
  have hA : ∀ q : Nat, s.heap.size ≤ q → (fun q : Nat => s.heap.size ≤ q) q := fun _ h => h
  have hbA : ¬ (fun q : Nat => s.heap.size ≤ q) b := Nat.not_le.mpr hbl
  generalize hAe : (fun q : Nat => s.heap.size ≤ q) = A at hG hP hD hS hA hbA K
  have hC : Cx p m c code 7 s #[Value.ref b] wLAW RL D k A := ⟨⟨hx, hb, hml, hown, hts⟩, hG, hA⟩
  have hK := hG.1
  have hown : s.vm.findClass RL = some m.cls := hown
  have hin_X6 : ∀ w ∈ u_ws RX6 TX6 2, w ∈ wLAW := fun w h => iUB_X6 w h
  unfold q_case_0 at hp
  refine lv_aload_n hx hb dL_law_164 rfl (lv_at hl 1 rfl) ?_
  refine lv_aload_n hx hb dL_law_165 rfl (lv_at hl 0 rfl) ?_
  refine lv_iload hx hb dL_law_166 (lv_at hl 4 rfl) ?_
  refine lv_iconst (v := 1) hx hb dL_law_168 (by decide) ?_
  refine lv_iadd hx hb dL_law_169 ?_
  refine va_sld hx hb hX hbl hbA hS hi1 dL_law_170 ?_
  rw [ha1]
  refine lv_aload_n hx hb dL_law_171 rfl (lv_at hl 3 rfl) ?_
  refine fw_ciSL (S := Mem × Int64 × Value) (wf := fun u => W5 k ad u.1 ++ WO o u.2.1 u.2.2) (wN := fun u => (W5 k ad u.1 ++ WO o u.2.1 u.2.2) ++ WM k am g τ) (As := [.ref (ad 0), .int a1, .ref o]) (rest := []) hC hN (c_L_field l hflag D k ad o hp) (vx_cwSW 3 hts (gT (va_wsS RL 111 yL_field wq_L_field) (mS2 B_92 B_93 B_94 B_5)) rfl rfl rfl (by decide +kernel) ⟨Nat.le_of_ble_eq_true rfl, Nat.le_of_ble_eq_true rfl⟩) rfl hl.1 rfl (Nat.le_of_ble_eq_true rfl) dL_law_172 ⟨by show cells + 1 ≤ 601024; omega, by show slots + 6 ≤ 7293034; omega⟩ (P_left hP) (D_left hD) hS (Jn.left hP hD) (fun k1 u9 H locs hP hD hS hp => ?_)
  obtain ⟨σ2, n3, v4⟩ := u9
  have hP : va_P D vwCl ((W5 k ad σ2 ++ WO o n3 v4) ++ WM k am g τ) H := hP
  have hD : va_D A ((W5 k ad σ2 ++ WO o n3 v4) ++ WM k am g τ) := hD
  refine lv_istore (lv' := [(5, .int k1), (0, .ref b), (1, .ref (ad 0)), (2, .ref (am 0)), (3, .ref o), (4, .int x4)]) hx hb dL_law_175 hl (by decide) rfl (fun ls hl => ?_)
  refine lv_aload_n hx hb dL_law_177 rfl (lv_at hl 3 rfl) ?_
  refine lv_aload_n hx hb dL_law_178 rfl (lv_at hl 1 rfl) ?_
  refine lv_iload hx hb dL_law_179 (lv_at hl 5 rfl) ?_
  refine lv_iconst (v := 1) hx hb dL_law_181 (by decide) ?_
  refine lv_iadd hx hb dL_law_182 ?_
  refine va_sld hx hb hX hbl hbA hS hi1 dL_law_183 ?_
  rw [ha1]
  refine fw_ciV (wf := fun u : Mem => WM k am g u) (wN := fun u : Mem => (W5 k ad σ2 ++ WO o n3 v4) ++ WM k am g u) (As := [.int a1]) (rest := []) hC (c_X8_field l D k am g hgk.1 hp) (cwV 1 hts (gT (wsV RL 116 RX8 yX8_field wq_X8_field) (mV2 B_95 B_96 B_97 (iB_A _ A_601) (iB_A _ A_628))) rfl rfl rfl (by decide +kernel) ⟨Nat.le_of_ble_eq_true rfl, Nat.le_of_ble_eq_true rfl⟩) (va_recv hK (P_right hP) (ci := 12) (q0 := 0) rfl rfl) rfl hl.1 rfl (Nat.le_of_ble_eq_true rfl) dL_law_184 ⟨by show cells + 1 + 0 ≤ 601024; omega, by show slots + 6 + 0 ≤ 7293034; omega⟩ (P_right hP) (D_right hD) hS (Jn.right hP hD) (fun r5 τ6 H locs hP hD hS hp => ?_)
  have hP : va_P D vwCl ((W5 k ad σ2 ++ WO o n3 v4) ++ WM k am g τ6) H := hP
  have hD : va_D A ((W5 k ad σ2 ++ WO o n3 v4) ++ WM k am g τ6) := hD
  refine lv_istore (lv' := [(6, .int r5), (5, .int k1), (0, .ref b), (1, .ref (ad 0)), (2, .ref (am 0)), (3, .ref o), (4, .int x4)]) hx hb dL_law_187 hl (by decide) rfl (fun ls hl => ?_)
  refine lv_goto (tgt := 1248) hx hb dL_law_189 (by decide) ?_
  exact K σ2 n3 v4 am g τ6 _ _ _ _ _ hgk hp hP hD hS (by omega) (by omega) (lv_sub hl [2, 3, 4, 5, 6] rfl)
def q_case_1 (nx : Mem → Int64 → Value → (Nat → Nat) → (Nat → Nat) → Mem → Prop) (a1 a2 a3 a4 : Int32) (σ : Mem) (n : Int64) (v : Value) (am g : Nat → Nat) (τ : Mem) : Prop := (q_L_oneOf (fun (k1 : Int32) (σ2 : Mem) (n3 : Int64) (v4 : Value) => (q_X8_oneOf am g (fun (r5 : Int32) (am6 g7 : Nat → Nat) (τ8 : Mem) => am6 0 = am 0 ∧ gk g7 ∧ nx σ2 n3 v4 am6 g7 τ8) a1 a2 a3 τ)) a1 a2 a3 n v σ)
set_option maxHeartbeats 4000000 in
set_option maxRecDepth 100000 in
theorem cs_1 {p : Program} {e : Env} {s : State} {m : MethodId} {below : List Frame} {meth : Method} {c : Code} (l : Launch) (hflag : l.stackTraces = false) {b L : Nat} {xs : Nat → Int32} (C0 : lw_At p s m meth c b L xs) {D : va_G} {k : Nat → Nat} (hG : GG D k (fun q : Nat => s.heap.size ≤ q) s s.heap) (hN : NC s) {ad am g : Nat → Nat} {o : Nat} {σ τ : Mem} {n : Int64} {v : Value} {x4 a1 a2 a3 a4 : Int32} (hi1 : vp_in (x4 + 1) L) (hi2 : vp_in (x4 + 2) L) (hi3 : vp_in (x4 + 3) L) (hi4 : vp_in (x4 + 4) L) (ha1 : xs (x4 + 1).toNatClampNeg = a1) (ha2 : xs (x4 + 2).toNatClampNeg = a2) (ha3 : xs (x4 + 3).toNatClampNeg = a3) (ha4 : xs (x4 + 4).toNatClampNeg = a4) (hgk : gk g) {cells slots : Nat} (hcl : cells + 100 ≤ 601024) (hsl : slots + 1000 ≤ 7293034) {H : Heap} {locs : List Loc} {ls : Array Slot} {Q : State → Prop} {nx : Mem → Int64 → Value → (Nat → Nat) → (Nat → Nat) → Mem → Prop} (hP : va_P D vwCl ((W5 k ad σ ++ WO o n v) ++ WM k am g τ) H) (hD : va_D (fun q : Nat => s.heap.size ≤ q) ((W5 k ad σ ++ WO o n v) ++ WM k am g τ)) (hS : va_S (fun q : Nat => s.heap.size ≤ q) s.heap H locs) (hl : lv_has ls 7 [(0, .ref b), (1, .ref (ad 0)), (2, .ref (am 0)), (3, .ref o), (4, .int x4)]) (hp : q_case_1 nx a1 a2 a3 a4 σ n v am g τ) (K : ∀ (σ' : Mem) (n' : Int64) (v' : Value) (am' g' : Nat → Nat) (τ' : Mem) (H' : Heap) (locs' : List Loc) (cells' slots' : Nat) (ls' : Array Slot), gk g' → nx σ' n' v' am' g' τ' → va_P D vwCl ((W5 k ad σ' ++ WO o n' v') ++ WM k am' g' τ') H' → va_D (fun q : Nat => s.heap.size ≤ q) ((W5 k ad σ' ++ WO o n' v') ++ WM k am' g' τ') → va_S (fun q : Nat => s.heap.size ≤ q) s.heap H' locs' → cells' ≤ cells + 100 → slots' ≤ slots + 1000 → lv_has ls' 7 [(0, .ref b), (1, .ref (ad 0)), (2, .ref (am' 0)), (3, .ref o), (4, .int x4)] → W p l e room_1 s m #[Value.ref b] below meth c H' locs' cells' slots' Q (F0 m 1248 ls' [])) : W p l e room_1 s m #[Value.ref b] below meth c H locs cells slots Q (F0 m 192 ls []) := by
  obtain ⟨hx, hb, hr, hml, hown, hts0, hX, hbl, hlocks, hgv⟩ := id C0
  have hts : ∀ w ∈ wLAW, w.before #[Value.ref b] s = true := jLAW hts0
  have hA : ∀ q : Nat, s.heap.size ≤ q → (fun q : Nat => s.heap.size ≤ q) q := fun _ h => h
  have hbA : ¬ (fun q : Nat => s.heap.size ≤ q) b := Nat.not_le.mpr hbl
  generalize hAe : (fun q : Nat => s.heap.size ≤ q) = A at hG hP hD hS hA hbA K
  have hC : Cx p m c code 7 s #[Value.ref b] wLAW RL D k A := ⟨⟨hx, hb, hml, hown, hts⟩, hG, hA⟩
  have hK := hG.1
  have hown : s.vm.findClass RL = some m.cls := hown
  have hin_X6 : ∀ w ∈ u_ws RX6 TX6 2, w ∈ wLAW := fun w h => iUB_X6 w h
  unfold q_case_1 at hp
  refine lv_aload_n hx hb dL_law_192 rfl (lv_at hl 1 rfl) ?_
  refine lv_aload_n hx hb dL_law_193 rfl (lv_at hl 0 rfl) ?_
  refine lv_iload hx hb dL_law_194 (lv_at hl 4 rfl) ?_
  refine lv_iconst (v := 1) hx hb dL_law_196 (by decide) ?_
  refine lv_iadd hx hb dL_law_197 ?_
  refine va_sld hx hb hX hbl hbA hS hi1 dL_law_198 ?_
  rw [ha1]
  refine lv_aload_n hx hb dL_law_199 rfl (lv_at hl 0 rfl) ?_
  refine lv_iload hx hb dL_law_200 (lv_at hl 4 rfl) ?_
  refine lv_iconst (v := 2) hx hb dL_law_202 (by decide) ?_
  refine lv_iadd hx hb dL_law_203 ?_
  refine va_sld hx hb hX hbl hbA hS hi2 dL_law_204 ?_
  rw [ha2]
  refine lv_aload_n hx hb dL_law_205 rfl (lv_at hl 0 rfl) ?_
  refine lv_iload hx hb dL_law_206 (lv_at hl 4 rfl) ?_
  refine lv_iconst (v := 3) hx hb dL_law_208 (by decide) ?_
  refine lv_iadd hx hb dL_law_209 ?_
  refine va_sld hx hb hX hbl hbA hS hi3 dL_law_210 ?_
  rw [ha3]
  refine lv_aload_n hx hb dL_law_211 rfl (lv_at hl 3 rfl) ?_
  refine fw_ciSL (S := Mem × Int64 × Value) (wf := fun u => W5 k ad u.1 ++ WO o u.2.1 u.2.2) (wN := fun u => (W5 k ad u.1 ++ WO o u.2.1 u.2.2) ++ WM k am g τ) (As := [.ref (ad 0), .int a1, .int a2, .int a3, .ref o]) (rest := []) hC hN (c_L_oneOf l hflag D k ad o hp) (vx_cwSW 5 hts (gT (va_wsS RL 117 yL_oneOf wq_L_oneOf) (mS2 B_98 B_99 B_94 B_10)) rfl rfl rfl (by decide +kernel) ⟨Nat.le_of_ble_eq_true rfl, Nat.le_of_ble_eq_true rfl⟩) rfl hl.1 rfl (Nat.le_of_ble_eq_true rfl) dL_law_212 ⟨by show cells + 1 ≤ 601024; omega, by show slots + 6 ≤ 7293034; omega⟩ (P_left hP) (D_left hD) hS (Jn.left hP hD) (fun k1 u9 H locs hP hD hS hp => ?_)
  obtain ⟨σ2, n3, v4⟩ := u9
  have hP : va_P D vwCl ((W5 k ad σ2 ++ WO o n3 v4) ++ WM k am g τ) H := hP
  have hD : va_D A ((W5 k ad σ2 ++ WO o n3 v4) ++ WM k am g τ) := hD
  refine lv_istore (lv' := [(5, .int k1), (0, .ref b), (1, .ref (ad 0)), (2, .ref (am 0)), (3, .ref o), (4, .int x4)]) hx hb dL_law_215 hl (by decide) rfl (fun ls hl => ?_)
  refine lv_aload_n hx hb dL_law_217 rfl (lv_at hl 3 rfl) ?_
  refine lv_aload_n hx hb dL_law_218 rfl (lv_at hl 1 rfl) ?_
  refine lv_iload hx hb dL_law_219 (lv_at hl 5 rfl) ?_
  refine lv_iconst (v := 1) hx hb dL_law_221 (by decide) ?_
  refine lv_iadd hx hb dL_law_222 ?_
  refine va_sld hx hb hX hbl hbA hS hi1 dL_law_223 ?_
  rw [ha1]
  refine lv_aload_n hx hb dL_law_224 rfl (lv_at hl 1 rfl) ?_
  refine lv_iload hx hb dL_law_225 (lv_at hl 5 rfl) ?_
  refine lv_iconst (v := 2) hx hb dL_law_227 (by decide) ?_
  refine lv_iadd hx hb dL_law_228 ?_
  refine va_sld hx hb hX hbl hbA hS hi2 dL_law_229 ?_
  rw [ha2]
  refine lv_aload_n hx hb dL_law_230 rfl (lv_at hl 1 rfl) ?_
  refine lv_iload hx hb dL_law_231 (lv_at hl 5 rfl) ?_
  refine lv_iconst (v := 3) hx hb dL_law_233 (by decide) ?_
  refine lv_iadd hx hb dL_law_234 ?_
  refine va_sld hx hb hX hbl hbA hS hi3 dL_law_235 ?_
  rw [ha3]
  refine fw_ciV (S := (Nat → Nat) × (Nat → Nat) × Mem) (wf := fun u => WM k u.1 u.2.1 u.2.2) (wN := fun u => (W5 k ad σ2 ++ WO o n3 v4) ++ WM k u.1 u.2.1 u.2.2) (As := [.int a1, .int a2, .int a3]) (rest := []) hC (c_X8_oneOf l D k am g hgk hp) (cwV 3 hts (gT (wsV RL 120 RX8 yX8_oneOf wq_X8_oneOf) (mV2 B_100 B_101 B_102 (iB_A _ A_601) (iB_A _ A_676))) rfl rfl rfl (by decide +kernel) ⟨Nat.le_of_ble_eq_true rfl, Nat.le_of_ble_eq_true rfl⟩) (va_recv hK (P_right hP) (ci := 12) (q0 := 0) rfl rfl) rfl hl.1 rfl (Nat.le_of_ble_eq_true rfl) dL_law_236 ⟨by show cells + 1 + 2 ≤ 601024; omega, by show slots + 6 + 40 ≤ 7293034; omega⟩ (P_right hP) (D_right hD) hS (Jn.right hP hD) (fun r5 u9 H locs hP hD hS hp => ?_)
  obtain ⟨am6, g7, τ8⟩ := u9
  obtain ⟨eam6, hgg7, hp⟩ := hp
  have hP : va_P D vwCl ((W5 k ad σ2 ++ WO o n3 v4) ++ WM k am6 g7 τ8) H := hP
  have hD : va_D A ((W5 k ad σ2 ++ WO o n3 v4) ++ WM k am6 g7 τ8) := hD
  have eam6 : am6 0 = am 0 := eam6
  rw [← eam6] at hl
  refine lv_istore (lv' := [(6, .int r5), (5, .int k1), (0, .ref b), (1, .ref (ad 0)), (2, .ref (am6 0)), (3, .ref o), (4, .int x4)]) hx hb dL_law_239 hl (by decide) rfl (fun ls hl => ?_)
  refine lv_goto (tgt := 1248) hx hb dL_law_241 (by decide) ?_
  exact K σ2 n3 v4 am6 g7 τ8 _ _ _ _ _ hgg7 hp hP hD hS (by omega) (by omega) (lv_sub hl [2, 3, 4, 5, 6] rfl)
def q_case_2 (nx : Mem → Int64 → Value → (Nat → Nat) → (Nat → Nat) → Mem → Prop) (a1 a2 a3 a4 : Int32) (σ : Mem) (n : Int64) (v : Value) (am g : Nat → Nat) (τ : Mem) : Prop := ((a4 = 0 → (q_L_bound (fun (k2 : Int32) (σ3 : Mem) (n4 : Int64) (v5 : Value) => (q_X8_bound am g (fun (r6 : Int32) (am7 g8 : Nat → Nat) (τ9 : Mem) => am7 0 = am 0 ∧ gk g8 ∧ nx σ3 n4 v5 am7 g8 τ9) a1 a2 a3 0 τ)) a1 a2 a3 0 n v σ)) ∧ (¬ (a4 = 0) → (q_L_bound (fun (k10 : Int32) (σ11 : Mem) (n12 : Int64) (v13 : Value) => (q_X8_bound am g (fun (r14 : Int32) (am15 g16 : Nat → Nat) (τ17 : Mem) => am15 0 = am 0 ∧ gk g16 ∧ nx σ11 n12 v13 am15 g16 τ17) a1 a2 a3 1 τ)) a1 a2 a3 1 n v σ)))
set_option maxHeartbeats 4000000 in
set_option maxRecDepth 100000 in
theorem cs_2 {p : Program} {e : Env} {s : State} {m : MethodId} {below : List Frame} {meth : Method} {c : Code} (l : Launch) (hflag : l.stackTraces = false) {b L : Nat} {xs : Nat → Int32} (C0 : lw_At p s m meth c b L xs) {D : va_G} {k : Nat → Nat} (hG : GG D k (fun q : Nat => s.heap.size ≤ q) s s.heap) (hN : NC s) {ad am g : Nat → Nat} {o : Nat} {σ τ : Mem} {n : Int64} {v : Value} {x4 a1 a2 a3 a4 : Int32} (hi1 : vp_in (x4 + 1) L) (hi2 : vp_in (x4 + 2) L) (hi3 : vp_in (x4 + 3) L) (hi4 : vp_in (x4 + 4) L) (ha1 : xs (x4 + 1).toNatClampNeg = a1) (ha2 : xs (x4 + 2).toNatClampNeg = a2) (ha3 : xs (x4 + 3).toNatClampNeg = a3) (ha4 : xs (x4 + 4).toNatClampNeg = a4) (hgk : gk g) {cells slots : Nat} (hcl : cells + 100 ≤ 601024) (hsl : slots + 1000 ≤ 7293034) {H : Heap} {locs : List Loc} {ls : Array Slot} {Q : State → Prop} {nx : Mem → Int64 → Value → (Nat → Nat) → (Nat → Nat) → Mem → Prop} (hP : va_P D vwCl ((W5 k ad σ ++ WO o n v) ++ WM k am g τ) H) (hD : va_D (fun q : Nat => s.heap.size ≤ q) ((W5 k ad σ ++ WO o n v) ++ WM k am g τ)) (hS : va_S (fun q : Nat => s.heap.size ≤ q) s.heap H locs) (hl : lv_has ls 7 [(0, .ref b), (1, .ref (ad 0)), (2, .ref (am 0)), (3, .ref o), (4, .int x4)]) (hp : q_case_2 nx a1 a2 a3 a4 σ n v am g τ) (K : ∀ (σ' : Mem) (n' : Int64) (v' : Value) (am' g' : Nat → Nat) (τ' : Mem) (H' : Heap) (locs' : List Loc) (cells' slots' : Nat) (ls' : Array Slot), gk g' → nx σ' n' v' am' g' τ' → va_P D vwCl ((W5 k ad σ' ++ WO o n' v') ++ WM k am' g' τ') H' → va_D (fun q : Nat => s.heap.size ≤ q) ((W5 k ad σ' ++ WO o n' v') ++ WM k am' g' τ') → va_S (fun q : Nat => s.heap.size ≤ q) s.heap H' locs' → cells' ≤ cells + 100 → slots' ≤ slots + 1000 → lv_has ls' 7 [(0, .ref b), (1, .ref (ad 0)), (2, .ref (am' 0)), (3, .ref o), (4, .int x4)] → W p l e room_1 s m #[Value.ref b] below meth c H' locs' cells' slots' Q (F0 m 1248 ls' [])) : W p l e room_1 s m #[Value.ref b] below meth c H locs cells slots Q (F0 m 244 ls []) := by
  obtain ⟨hx, hb, hr, hml, hown, hts0, hX, hbl, hlocks, hgv⟩ := id C0
  have hts : ∀ w ∈ wLAW, w.before #[Value.ref b] s = true := jLAW hts0
  have hA : ∀ q : Nat, s.heap.size ≤ q → (fun q : Nat => s.heap.size ≤ q) q := fun _ h => h
  have hbA : ¬ (fun q : Nat => s.heap.size ≤ q) b := Nat.not_le.mpr hbl
  generalize hAe : (fun q : Nat => s.heap.size ≤ q) = A at hG hP hD hS hA hbA K
  have hC : Cx p m c code 7 s #[Value.ref b] wLAW RL D k A := ⟨⟨hx, hb, hml, hown, hts⟩, hG, hA⟩
  have hK := hG.1
  have hown : s.vm.findClass RL = some m.cls := hown
  have hin_X6 : ∀ w ∈ u_ws RX6 TX6 2, w ∈ wLAW := fun w h => iUB_X6 w h
  unfold q_case_2 at hp
  refine lv_aload_n hx hb dL_law_244 rfl (lv_at hl 1 rfl) ?_
  refine lv_aload_n hx hb dL_law_245 rfl (lv_at hl 0 rfl) ?_
  refine lv_iload hx hb dL_law_246 (lv_at hl 4 rfl) ?_
  refine lv_iconst (v := 1) hx hb dL_law_248 (by decide) ?_
  refine lv_iadd hx hb dL_law_249 ?_
  refine va_sld hx hb hX hbl hbA hS hi1 dL_law_250 ?_
  rw [ha1]
  refine lv_aload_n hx hb dL_law_251 rfl (lv_at hl 0 rfl) ?_
  refine lv_iload hx hb dL_law_252 (lv_at hl 4 rfl) ?_
  refine lv_iconst (v := 2) hx hb dL_law_254 (by decide) ?_
  refine lv_iadd hx hb dL_law_255 ?_
  refine va_sld hx hb hX hbl hbA hS hi2 dL_law_256 ?_
  rw [ha2]
  refine lv_aload_n hx hb dL_law_257 rfl (lv_at hl 0 rfl) ?_
  refine lv_iload hx hb dL_law_258 (lv_at hl 4 rfl) ?_
  refine lv_iconst (v := 3) hx hb dL_law_260 (by decide) ?_
  refine lv_iadd hx hb dL_law_261 ?_
  refine va_sld hx hb hX hbl hbA hS hi3 dL_law_262 ?_
  rw [ha3]
  refine lv_aload_n hx hb dL_law_263 rfl (lv_at hl 0 rfl) ?_
  refine lv_iload hx hb dL_law_264 (lv_at hl 4 rfl) ?_
  refine lv_iconst (v := 4) hx hb dL_law_266 (by decide) ?_
  refine lv_iadd hx hb dL_law_267 ?_
  refine va_sld hx hb hX hbl hbA hS hi4 dL_law_268 ?_
  rw [ha4]
  refine lv_if_eq (tgt := 276) hx hb dL_law_269 (by decide) (fun c1 => ?_) (fun c1 => ?_)
  · have hp := hp.1 c1
    refine lv_iconst (v := 0) hx hb dL_law_276 (by decide) ?_
    refine lv_aload_n hx hb dL_law_277 rfl (lv_at hl 3 rfl) ?_
    refine fw_ciSL (S := Mem × Int64 × Value) (wf := fun u => W5 k ad u.1 ++ WO o u.2.1 u.2.2) (wN := fun u => (W5 k ad u.1 ++ WO o u.2.1 u.2.2) ++ WM k am g τ) (As := [.ref (ad 0), .int a1, .int a2, .int a3, .int 0, .ref o]) (rest := []) hC hN (c_L_bound l hflag D k ad o hp) (vx_cwSW 6 hts (gT (va_wsS RL 121 yL_bound wq_L_bound) (mS2 B_103 B_104 B_94 B_14)) rfl rfl rfl (by decide +kernel) ⟨Nat.le_of_ble_eq_true rfl, Nat.le_of_ble_eq_true rfl⟩) rfl hl.1 rfl (Nat.le_of_ble_eq_true rfl) dL_law_278 ⟨by show cells + 1 ≤ 601024; omega, by show slots + 6 ≤ 7293034; omega⟩ (P_left hP) (D_left hD) hS (Jn.left hP hD) (fun k2 u9 H locs hP hD hS hp => ?_)
    obtain ⟨σ3, n4, v5⟩ := u9
    have hP : va_P D vwCl ((W5 k ad σ3 ++ WO o n4 v5) ++ WM k am g τ) H := hP
    have hD : va_D A ((W5 k ad σ3 ++ WO o n4 v5) ++ WM k am g τ) := hD
    refine lv_istore (lv' := [(5, .int k2), (0, .ref b), (1, .ref (ad 0)), (2, .ref (am 0)), (3, .ref o), (4, .int x4)]) hx hb dL_law_281 hl (by decide) rfl (fun ls hl => ?_)
    refine lv_aload_n hx hb dL_law_283 rfl (lv_at hl 3 rfl) ?_
    refine lv_aload_n hx hb dL_law_284 rfl (lv_at hl 1 rfl) ?_
    refine lv_iload hx hb dL_law_285 (lv_at hl 5 rfl) ?_
    refine lv_iconst (v := 1) hx hb dL_law_287 (by decide) ?_
    refine lv_iadd hx hb dL_law_288 ?_
    refine va_sld hx hb hX hbl hbA hS hi1 dL_law_289 ?_
    rw [ha1]
    refine lv_aload_n hx hb dL_law_290 rfl (lv_at hl 1 rfl) ?_
    refine lv_iload hx hb dL_law_291 (lv_at hl 5 rfl) ?_
    refine lv_iconst (v := 2) hx hb dL_law_293 (by decide) ?_
    refine lv_iadd hx hb dL_law_294 ?_
    refine va_sld hx hb hX hbl hbA hS hi2 dL_law_295 ?_
    rw [ha2]
    refine lv_aload_n hx hb dL_law_296 rfl (lv_at hl 1 rfl) ?_
    refine lv_iload hx hb dL_law_297 (lv_at hl 5 rfl) ?_
    refine lv_iconst (v := 3) hx hb dL_law_299 (by decide) ?_
    refine lv_iadd hx hb dL_law_300 ?_
    refine va_sld hx hb hX hbl hbA hS hi3 dL_law_301 ?_
    rw [ha3]
    refine lv_aload_n hx hb dL_law_302 rfl (lv_at hl 1 rfl) ?_
    refine lv_iload hx hb dL_law_303 (lv_at hl 5 rfl) ?_
    refine lv_iconst (v := 4) hx hb dL_law_305 (by decide) ?_
    refine lv_iadd hx hb dL_law_306 ?_
    refine va_sld hx hb hX hbl hbA hS hi4 dL_law_307 ?_
    rw [ha4]
    refine lv_if_eq (tgt := 315) hx hb dL_law_308 (by decide) (fun _ => ?_) (fun c9 => absurd c1 c9)
    refine lv_iconst (v := 0) hx hb dL_law_315 (by decide) ?_
    refine fw_ciV (S := (Nat → Nat) × (Nat → Nat) × Mem) (wf := fun u => WM k u.1 u.2.1 u.2.2) (wN := fun u => (W5 k ad σ3 ++ WO o n4 v5) ++ WM k u.1 u.2.1 u.2.2) (As := [.int a1, .int a2, .int a3, .int 0]) (rest := []) hC (c_X8_bound l D k am g hgk hp) (cwV 4 hts (gT (wsV RL 124 RX8 yX8_bound wq_X8_bound) (mV2 B_105 B_106 B_107 (iB_A _ A_601) (iB_A _ A_677))) rfl rfl rfl (by decide +kernel) ⟨Nat.le_of_ble_eq_true rfl, Nat.le_of_ble_eq_true rfl⟩) (va_recv hK (P_right hP) (ci := 12) (q0 := 0) rfl rfl) rfl hl.1 rfl (Nat.le_of_ble_eq_true rfl) dL_law_316 ⟨by show cells + 1 + 2 ≤ 601024; omega, by show slots + 6 + 40 ≤ 7293034; omega⟩ (P_right hP) (D_right hD) hS (Jn.right hP hD) (fun r6 u9 H locs hP hD hS hp => ?_)
    obtain ⟨am7, g8, τ9⟩ := u9
    obtain ⟨eam7, hgg8, hp⟩ := hp
    have hP : va_P D vwCl ((W5 k ad σ3 ++ WO o n4 v5) ++ WM k am7 g8 τ9) H := hP
    have hD : va_D A ((W5 k ad σ3 ++ WO o n4 v5) ++ WM k am7 g8 τ9) := hD
    have eam7 : am7 0 = am 0 := eam7
    rw [← eam7] at hl
    refine lv_istore (lv' := [(6, .int r6), (5, .int k2), (0, .ref b), (1, .ref (ad 0)), (2, .ref (am7 0)), (3, .ref o), (4, .int x4)]) hx hb dL_law_319 hl (by decide) rfl (fun ls hl => ?_)
    refine lv_goto (tgt := 1248) hx hb dL_law_321 (by decide) ?_
    exact K σ3 n4 v5 am7 g8 τ9 _ _ _ _ _ hgg8 hp hP hD hS (by omega) (by omega) (lv_sub hl [2, 3, 4, 5, 6] rfl)
  · have hp := hp.2 c1
    refine lv_iconst (v := 1) hx hb dL_law_272 (by decide) ?_
    refine lv_goto (tgt := 277) hx hb dL_law_273 (by decide) ?_
    refine lv_aload_n hx hb dL_law_277 rfl (lv_at hl 3 rfl) ?_
    refine fw_ciSL (S := Mem × Int64 × Value) (wf := fun u => W5 k ad u.1 ++ WO o u.2.1 u.2.2) (wN := fun u => (W5 k ad u.1 ++ WO o u.2.1 u.2.2) ++ WM k am g τ) (As := [.ref (ad 0), .int a1, .int a2, .int a3, .int 1, .ref o]) (rest := []) hC hN (c_L_bound l hflag D k ad o hp) (vx_cwSW 6 hts (gT (va_wsS RL 121 yL_bound wq_L_bound) (mS2 B_103 B_104 B_94 B_14)) rfl rfl rfl (by decide +kernel) ⟨Nat.le_of_ble_eq_true rfl, Nat.le_of_ble_eq_true rfl⟩) rfl hl.1 rfl (Nat.le_of_ble_eq_true rfl) dL_law_278 ⟨by show cells + 1 ≤ 601024; omega, by show slots + 6 ≤ 7293034; omega⟩ (P_left hP) (D_left hD) hS (Jn.left hP hD) (fun k10 u9 H locs hP hD hS hp => ?_)
    obtain ⟨σ11, n12, v13⟩ := u9
    have hP : va_P D vwCl ((W5 k ad σ11 ++ WO o n12 v13) ++ WM k am g τ) H := hP
    have hD : va_D A ((W5 k ad σ11 ++ WO o n12 v13) ++ WM k am g τ) := hD
    refine lv_istore (lv' := [(5, .int k10), (0, .ref b), (1, .ref (ad 0)), (2, .ref (am 0)), (3, .ref o), (4, .int x4)]) hx hb dL_law_281 hl (by decide) rfl (fun ls hl => ?_)
    refine lv_aload_n hx hb dL_law_283 rfl (lv_at hl 3 rfl) ?_
    refine lv_aload_n hx hb dL_law_284 rfl (lv_at hl 1 rfl) ?_
    refine lv_iload hx hb dL_law_285 (lv_at hl 5 rfl) ?_
    refine lv_iconst (v := 1) hx hb dL_law_287 (by decide) ?_
    refine lv_iadd hx hb dL_law_288 ?_
    refine va_sld hx hb hX hbl hbA hS hi1 dL_law_289 ?_
    rw [ha1]
    refine lv_aload_n hx hb dL_law_290 rfl (lv_at hl 1 rfl) ?_
    refine lv_iload hx hb dL_law_291 (lv_at hl 5 rfl) ?_
    refine lv_iconst (v := 2) hx hb dL_law_293 (by decide) ?_
    refine lv_iadd hx hb dL_law_294 ?_
    refine va_sld hx hb hX hbl hbA hS hi2 dL_law_295 ?_
    rw [ha2]
    refine lv_aload_n hx hb dL_law_296 rfl (lv_at hl 1 rfl) ?_
    refine lv_iload hx hb dL_law_297 (lv_at hl 5 rfl) ?_
    refine lv_iconst (v := 3) hx hb dL_law_299 (by decide) ?_
    refine lv_iadd hx hb dL_law_300 ?_
    refine va_sld hx hb hX hbl hbA hS hi3 dL_law_301 ?_
    rw [ha3]
    refine lv_aload_n hx hb dL_law_302 rfl (lv_at hl 1 rfl) ?_
    refine lv_iload hx hb dL_law_303 (lv_at hl 5 rfl) ?_
    refine lv_iconst (v := 4) hx hb dL_law_305 (by decide) ?_
    refine lv_iadd hx hb dL_law_306 ?_
    refine va_sld hx hb hX hbl hbA hS hi4 dL_law_307 ?_
    rw [ha4]
    refine lv_if_eq (tgt := 315) hx hb dL_law_308 (by decide) (fun c9 => absurd c9 c1) (fun _ => ?_)
    refine lv_iconst (v := 1) hx hb dL_law_311 (by decide) ?_
    refine lv_goto (tgt := 316) hx hb dL_law_312 (by decide) ?_
    refine fw_ciV (S := (Nat → Nat) × (Nat → Nat) × Mem) (wf := fun u => WM k u.1 u.2.1 u.2.2) (wN := fun u => (W5 k ad σ11 ++ WO o n12 v13) ++ WM k u.1 u.2.1 u.2.2) (As := [.int a1, .int a2, .int a3, .int 1]) (rest := []) hC (c_X8_bound l D k am g hgk hp) (cwV 4 hts (gT (wsV RL 124 RX8 yX8_bound wq_X8_bound) (mV2 B_105 B_106 B_107 (iB_A _ A_601) (iB_A _ A_677))) rfl rfl rfl (by decide +kernel) ⟨Nat.le_of_ble_eq_true rfl, Nat.le_of_ble_eq_true rfl⟩) (va_recv hK (P_right hP) (ci := 12) (q0 := 0) rfl rfl) rfl hl.1 rfl (Nat.le_of_ble_eq_true rfl) dL_law_316 ⟨by show cells + 1 + 2 ≤ 601024; omega, by show slots + 6 + 40 ≤ 7293034; omega⟩ (P_right hP) (D_right hD) hS (Jn.right hP hD) (fun r14 u9 H locs hP hD hS hp => ?_)
    obtain ⟨am15, g16, τ17⟩ := u9
    obtain ⟨eam15, hgg16, hp⟩ := hp
    have hP : va_P D vwCl ((W5 k ad σ11 ++ WO o n12 v13) ++ WM k am15 g16 τ17) H := hP
    have hD : va_D A ((W5 k ad σ11 ++ WO o n12 v13) ++ WM k am15 g16 τ17) := hD
    have eam15 : am15 0 = am 0 := eam15
    rw [← eam15] at hl
    refine lv_istore (lv' := [(6, .int r14), (5, .int k10), (0, .ref b), (1, .ref (ad 0)), (2, .ref (am15 0)), (3, .ref o), (4, .int x4)]) hx hb dL_law_319 hl (by decide) rfl (fun ls hl => ?_)
    refine lv_goto (tgt := 1248) hx hb dL_law_321 (by decide) ?_
    exact K σ11 n12 v13 am15 g16 τ17 _ _ _ _ _ hgg16 hp hP hD hS (by omega) (by omega) (lv_sub hl [2, 3, 4, 5, 6] rfl)
def q_case_3 (nx : Mem → Int64 → Value → (Nat → Nat) → (Nat → Nat) → Mem → Prop) (a1 a2 a3 a4 : Int32) (σ : Mem) (n : Int64) (v : Value) (am g : Nat → Nat) (τ : Mem) : Prop := (q_L_more (fun (k1 : Int32) (σ2 : Mem) (n3 : Int64) (v4 : Value) => (q_X8_more am g (fun (r5 : Int32) (am6 g7 : Nat → Nat) (τ8 : Mem) => am6 0 = am 0 ∧ gk g7 ∧ nx σ2 n3 v4 am6 g7 τ8) a1 a2 a3 a4 τ)) a1 a2 a3 a4 n v σ)
set_option maxHeartbeats 4000000 in
set_option maxRecDepth 100000 in
theorem cs_3 {p : Program} {e : Env} {s : State} {m : MethodId} {below : List Frame} {meth : Method} {c : Code} (l : Launch) (hflag : l.stackTraces = false) {b L : Nat} {xs : Nat → Int32} (C0 : lw_At p s m meth c b L xs) {D : va_G} {k : Nat → Nat} (hG : GG D k (fun q : Nat => s.heap.size ≤ q) s s.heap) (hN : NC s) {ad am g : Nat → Nat} {o : Nat} {σ τ : Mem} {n : Int64} {v : Value} {x4 a1 a2 a3 a4 : Int32} (hi1 : vp_in (x4 + 1) L) (hi2 : vp_in (x4 + 2) L) (hi3 : vp_in (x4 + 3) L) (hi4 : vp_in (x4 + 4) L) (ha1 : xs (x4 + 1).toNatClampNeg = a1) (ha2 : xs (x4 + 2).toNatClampNeg = a2) (ha3 : xs (x4 + 3).toNatClampNeg = a3) (ha4 : xs (x4 + 4).toNatClampNeg = a4) (hgk : gk g) {cells slots : Nat} (hcl : cells + 100 ≤ 601024) (hsl : slots + 1000 ≤ 7293034) {H : Heap} {locs : List Loc} {ls : Array Slot} {Q : State → Prop} {nx : Mem → Int64 → Value → (Nat → Nat) → (Nat → Nat) → Mem → Prop} (hP : va_P D vwCl ((W5 k ad σ ++ WO o n v) ++ WM k am g τ) H) (hD : va_D (fun q : Nat => s.heap.size ≤ q) ((W5 k ad σ ++ WO o n v) ++ WM k am g τ)) (hS : va_S (fun q : Nat => s.heap.size ≤ q) s.heap H locs) (hl : lv_has ls 7 [(0, .ref b), (1, .ref (ad 0)), (2, .ref (am 0)), (3, .ref o), (4, .int x4)]) (hp : q_case_3 nx a1 a2 a3 a4 σ n v am g τ) (K : ∀ (σ' : Mem) (n' : Int64) (v' : Value) (am' g' : Nat → Nat) (τ' : Mem) (H' : Heap) (locs' : List Loc) (cells' slots' : Nat) (ls' : Array Slot), gk g' → nx σ' n' v' am' g' τ' → va_P D vwCl ((W5 k ad σ' ++ WO o n' v') ++ WM k am' g' τ') H' → va_D (fun q : Nat => s.heap.size ≤ q) ((W5 k ad σ' ++ WO o n' v') ++ WM k am' g' τ') → va_S (fun q : Nat => s.heap.size ≤ q) s.heap H' locs' → cells' ≤ cells + 100 → slots' ≤ slots + 1000 → lv_has ls' 7 [(0, .ref b), (1, .ref (ad 0)), (2, .ref (am' 0)), (3, .ref o), (4, .int x4)] → W p l e room_1 s m #[Value.ref b] below meth c H' locs' cells' slots' Q (F0 m 1248 ls' [])) : W p l e room_1 s m #[Value.ref b] below meth c H locs cells slots Q (F0 m 324 ls []) := by
  obtain ⟨hx, hb, hr, hml, hown, hts0, hX, hbl, hlocks, hgv⟩ := id C0
  have hts : ∀ w ∈ wLAW, w.before #[Value.ref b] s = true := jLAW hts0
  have hA : ∀ q : Nat, s.heap.size ≤ q → (fun q : Nat => s.heap.size ≤ q) q := fun _ h => h
  have hbA : ¬ (fun q : Nat => s.heap.size ≤ q) b := Nat.not_le.mpr hbl
  generalize hAe : (fun q : Nat => s.heap.size ≤ q) = A at hG hP hD hS hA hbA K
  have hC : Cx p m c code 7 s #[Value.ref b] wLAW RL D k A := ⟨⟨hx, hb, hml, hown, hts⟩, hG, hA⟩
  have hK := hG.1
  have hown : s.vm.findClass RL = some m.cls := hown
  have hin_X6 : ∀ w ∈ u_ws RX6 TX6 2, w ∈ wLAW := fun w h => iUB_X6 w h
  unfold q_case_3 at hp
  refine lv_aload_n hx hb dL_law_324 rfl (lv_at hl 1 rfl) ?_
  refine lv_aload_n hx hb dL_law_325 rfl (lv_at hl 0 rfl) ?_
  refine lv_iload hx hb dL_law_326 (lv_at hl 4 rfl) ?_
  refine lv_iconst (v := 1) hx hb dL_law_328 (by decide) ?_
  refine lv_iadd hx hb dL_law_329 ?_
  refine va_sld hx hb hX hbl hbA hS hi1 dL_law_330 ?_
  rw [ha1]
  refine lv_aload_n hx hb dL_law_331 rfl (lv_at hl 0 rfl) ?_
  refine lv_iload hx hb dL_law_332 (lv_at hl 4 rfl) ?_
  refine lv_iconst (v := 2) hx hb dL_law_334 (by decide) ?_
  refine lv_iadd hx hb dL_law_335 ?_
  refine va_sld hx hb hX hbl hbA hS hi2 dL_law_336 ?_
  rw [ha2]
  refine lv_aload_n hx hb dL_law_337 rfl (lv_at hl 0 rfl) ?_
  refine lv_iload hx hb dL_law_338 (lv_at hl 4 rfl) ?_
  refine lv_iconst (v := 3) hx hb dL_law_340 (by decide) ?_
  refine lv_iadd hx hb dL_law_341 ?_
  refine va_sld hx hb hX hbl hbA hS hi3 dL_law_342 ?_
  rw [ha3]
  refine lv_aload_n hx hb dL_law_343 rfl (lv_at hl 0 rfl) ?_
  refine lv_iload hx hb dL_law_344 (lv_at hl 4 rfl) ?_
  refine lv_iconst (v := 4) hx hb dL_law_346 (by decide) ?_
  refine lv_iadd hx hb dL_law_347 ?_
  refine va_sld hx hb hX hbl hbA hS hi4 dL_law_348 ?_
  rw [ha4]
  refine lv_aload_n hx hb dL_law_349 rfl (lv_at hl 3 rfl) ?_
  refine fw_ciSL (S := Mem × Int64 × Value) (wf := fun u => W5 k ad u.1 ++ WO o u.2.1 u.2.2) (wN := fun u => (W5 k ad u.1 ++ WO o u.2.1 u.2.2) ++ WM k am g τ) (As := [.ref (ad 0), .int a1, .int a2, .int a3, .int a4, .ref o]) (rest := []) hC hN (c_L_more l hflag D k ad o hp) (vx_cwSW 6 hts (gT (va_wsS RL 125 yL_more wq_L_more) (mS2 B_108 B_109 B_94 B_18)) rfl rfl rfl (by decide +kernel) ⟨Nat.le_of_ble_eq_true rfl, Nat.le_of_ble_eq_true rfl⟩) rfl hl.1 rfl (Nat.le_of_ble_eq_true rfl) dL_law_350 ⟨by show cells + 1 ≤ 601024; omega, by show slots + 6 ≤ 7293034; omega⟩ (P_left hP) (D_left hD) hS (Jn.left hP hD) (fun k1 u9 H locs hP hD hS hp => ?_)
  obtain ⟨σ2, n3, v4⟩ := u9
  have hP : va_P D vwCl ((W5 k ad σ2 ++ WO o n3 v4) ++ WM k am g τ) H := hP
  have hD : va_D A ((W5 k ad σ2 ++ WO o n3 v4) ++ WM k am g τ) := hD
  refine lv_istore (lv' := [(5, .int k1), (0, .ref b), (1, .ref (ad 0)), (2, .ref (am 0)), (3, .ref o), (4, .int x4)]) hx hb dL_law_353 hl (by decide) rfl (fun ls hl => ?_)
  refine lv_aload_n hx hb dL_law_355 rfl (lv_at hl 3 rfl) ?_
  refine lv_aload_n hx hb dL_law_356 rfl (lv_at hl 1 rfl) ?_
  refine lv_iload hx hb dL_law_357 (lv_at hl 5 rfl) ?_
  refine lv_iconst (v := 1) hx hb dL_law_359 (by decide) ?_
  refine lv_iadd hx hb dL_law_360 ?_
  refine va_sld hx hb hX hbl hbA hS hi1 dL_law_361 ?_
  rw [ha1]
  refine lv_aload_n hx hb dL_law_362 rfl (lv_at hl 1 rfl) ?_
  refine lv_iload hx hb dL_law_363 (lv_at hl 5 rfl) ?_
  refine lv_iconst (v := 2) hx hb dL_law_365 (by decide) ?_
  refine lv_iadd hx hb dL_law_366 ?_
  refine va_sld hx hb hX hbl hbA hS hi2 dL_law_367 ?_
  rw [ha2]
  refine lv_aload_n hx hb dL_law_368 rfl (lv_at hl 1 rfl) ?_
  refine lv_iload hx hb dL_law_369 (lv_at hl 5 rfl) ?_
  refine lv_iconst (v := 3) hx hb dL_law_371 (by decide) ?_
  refine lv_iadd hx hb dL_law_372 ?_
  refine va_sld hx hb hX hbl hbA hS hi3 dL_law_373 ?_
  rw [ha3]
  refine lv_aload_n hx hb dL_law_374 rfl (lv_at hl 1 rfl) ?_
  refine lv_iload hx hb dL_law_375 (lv_at hl 5 rfl) ?_
  refine lv_iconst (v := 4) hx hb dL_law_377 (by decide) ?_
  refine lv_iadd hx hb dL_law_378 ?_
  refine va_sld hx hb hX hbl hbA hS hi4 dL_law_379 ?_
  rw [ha4]
  refine fw_ciV (S := (Nat → Nat) × (Nat → Nat) × Mem) (wf := fun u => WM k u.1 u.2.1 u.2.2) (wN := fun u => (W5 k ad σ2 ++ WO o n3 v4) ++ WM k u.1 u.2.1 u.2.2) (As := [.int a1, .int a2, .int a3, .int a4]) (rest := []) hC (c_X8_more l D k am g hgk hp) (cwV 4 hts (gT (wsV RL 128 RX8 yX8_more wq_X8_more) (mV2 B_110 B_111 B_112 (iB_A _ A_601) (iB_A _ A_678))) rfl rfl rfl (by decide +kernel) ⟨Nat.le_of_ble_eq_true rfl, Nat.le_of_ble_eq_true rfl⟩) (va_recv hK (P_right hP) (ci := 12) (q0 := 0) rfl rfl) rfl hl.1 rfl (Nat.le_of_ble_eq_true rfl) dL_law_380 ⟨by show cells + 1 + 2 ≤ 601024; omega, by show slots + 6 + 40 ≤ 7293034; omega⟩ (P_right hP) (D_right hD) hS (Jn.right hP hD) (fun r5 u9 H locs hP hD hS hp => ?_)
  obtain ⟨am6, g7, τ8⟩ := u9
  obtain ⟨eam6, hgg7, hp⟩ := hp
  have hP : va_P D vwCl ((W5 k ad σ2 ++ WO o n3 v4) ++ WM k am6 g7 τ8) H := hP
  have hD : va_D A ((W5 k ad σ2 ++ WO o n3 v4) ++ WM k am6 g7 τ8) := hD
  have eam6 : am6 0 = am 0 := eam6
  rw [← eam6] at hl
  refine lv_istore (lv' := [(6, .int r5), (5, .int k1), (0, .ref b), (1, .ref (ad 0)), (2, .ref (am6 0)), (3, .ref o), (4, .int x4)]) hx hb dL_law_383 hl (by decide) rfl (fun ls hl => ?_)
  refine lv_goto (tgt := 1248) hx hb dL_law_385 (by decide) ?_
  exact K σ2 n3 v4 am6 g7 τ8 _ _ _ _ _ hgg7 hp hP hD hS (by omega) (by omega) (lv_sub hl [2, 3, 4, 5, 6] rfl)
def q_case_4 (nx : Mem → Int64 → Value → (Nat → Nat) → (Nat → Nat) → Mem → Prop) (a1 a2 a3 a4 : Int32) (σ : Mem) (n : Int64) (v : Value) (am g : Nat → Nat) (τ : Mem) : Prop := (q_L_unlike (fun (k1 : Int32) (σ2 : Mem) (n3 : Int64) (v4 : Value) => (q_X8_unlike am g (fun (r5 : Int32) (am6 g7 : Nat → Nat) (τ8 : Mem) => am6 0 = am 0 ∧ gk g7 ∧ nx σ2 n3 v4 am6 g7 τ8) a1 a2 a3 τ)) a1 a2 a3 n v σ)
set_option maxHeartbeats 4000000 in
set_option maxRecDepth 100000 in
theorem cs_4 {p : Program} {e : Env} {s : State} {m : MethodId} {below : List Frame} {meth : Method} {c : Code} (l : Launch) (hflag : l.stackTraces = false) {b L : Nat} {xs : Nat → Int32} (C0 : lw_At p s m meth c b L xs) {D : va_G} {k : Nat → Nat} (hG : GG D k (fun q : Nat => s.heap.size ≤ q) s s.heap) (hN : NC s) {ad am g : Nat → Nat} {o : Nat} {σ τ : Mem} {n : Int64} {v : Value} {x4 a1 a2 a3 a4 : Int32} (hi1 : vp_in (x4 + 1) L) (hi2 : vp_in (x4 + 2) L) (hi3 : vp_in (x4 + 3) L) (hi4 : vp_in (x4 + 4) L) (ha1 : xs (x4 + 1).toNatClampNeg = a1) (ha2 : xs (x4 + 2).toNatClampNeg = a2) (ha3 : xs (x4 + 3).toNatClampNeg = a3) (ha4 : xs (x4 + 4).toNatClampNeg = a4) (hgk : gk g) {cells slots : Nat} (hcl : cells + 100 ≤ 601024) (hsl : slots + 1000 ≤ 7293034) {H : Heap} {locs : List Loc} {ls : Array Slot} {Q : State → Prop} {nx : Mem → Int64 → Value → (Nat → Nat) → (Nat → Nat) → Mem → Prop} (hP : va_P D vwCl ((W5 k ad σ ++ WO o n v) ++ WM k am g τ) H) (hD : va_D (fun q : Nat => s.heap.size ≤ q) ((W5 k ad σ ++ WO o n v) ++ WM k am g τ)) (hS : va_S (fun q : Nat => s.heap.size ≤ q) s.heap H locs) (hl : lv_has ls 7 [(0, .ref b), (1, .ref (ad 0)), (2, .ref (am 0)), (3, .ref o), (4, .int x4)]) (hp : q_case_4 nx a1 a2 a3 a4 σ n v am g τ) (K : ∀ (σ' : Mem) (n' : Int64) (v' : Value) (am' g' : Nat → Nat) (τ' : Mem) (H' : Heap) (locs' : List Loc) (cells' slots' : Nat) (ls' : Array Slot), gk g' → nx σ' n' v' am' g' τ' → va_P D vwCl ((W5 k ad σ' ++ WO o n' v') ++ WM k am' g' τ') H' → va_D (fun q : Nat => s.heap.size ≤ q) ((W5 k ad σ' ++ WO o n' v') ++ WM k am' g' τ') → va_S (fun q : Nat => s.heap.size ≤ q) s.heap H' locs' → cells' ≤ cells + 100 → slots' ≤ slots + 1000 → lv_has ls' 7 [(0, .ref b), (1, .ref (ad 0)), (2, .ref (am' 0)), (3, .ref o), (4, .int x4)] → W p l e room_1 s m #[Value.ref b] below meth c H' locs' cells' slots' Q (F0 m 1248 ls' [])) : W p l e room_1 s m #[Value.ref b] below meth c H locs cells slots Q (F0 m 388 ls []) := by
  obtain ⟨hx, hb, hr, hml, hown, hts0, hX, hbl, hlocks, hgv⟩ := id C0
  have hts : ∀ w ∈ wLAW, w.before #[Value.ref b] s = true := jLAW hts0
  have hA : ∀ q : Nat, s.heap.size ≤ q → (fun q : Nat => s.heap.size ≤ q) q := fun _ h => h
  have hbA : ¬ (fun q : Nat => s.heap.size ≤ q) b := Nat.not_le.mpr hbl
  generalize hAe : (fun q : Nat => s.heap.size ≤ q) = A at hG hP hD hS hA hbA K
  have hC : Cx p m c code 7 s #[Value.ref b] wLAW RL D k A := ⟨⟨hx, hb, hml, hown, hts⟩, hG, hA⟩
  have hK := hG.1
  have hown : s.vm.findClass RL = some m.cls := hown
  have hin_X6 : ∀ w ∈ u_ws RX6 TX6 2, w ∈ wLAW := fun w h => iUB_X6 w h
  unfold q_case_4 at hp
  refine lv_aload_n hx hb dL_law_388 rfl (lv_at hl 1 rfl) ?_
  refine lv_aload_n hx hb dL_law_389 rfl (lv_at hl 0 rfl) ?_
  refine lv_iload hx hb dL_law_390 (lv_at hl 4 rfl) ?_
  refine lv_iconst (v := 1) hx hb dL_law_392 (by decide) ?_
  refine lv_iadd hx hb dL_law_393 ?_
  refine va_sld hx hb hX hbl hbA hS hi1 dL_law_394 ?_
  rw [ha1]
  refine lv_aload_n hx hb dL_law_395 rfl (lv_at hl 0 rfl) ?_
  refine lv_iload hx hb dL_law_396 (lv_at hl 4 rfl) ?_
  refine lv_iconst (v := 2) hx hb dL_law_398 (by decide) ?_
  refine lv_iadd hx hb dL_law_399 ?_
  refine va_sld hx hb hX hbl hbA hS hi2 dL_law_400 ?_
  rw [ha2]
  refine lv_aload_n hx hb dL_law_401 rfl (lv_at hl 0 rfl) ?_
  refine lv_iload hx hb dL_law_402 (lv_at hl 4 rfl) ?_
  refine lv_iconst (v := 3) hx hb dL_law_404 (by decide) ?_
  refine lv_iadd hx hb dL_law_405 ?_
  refine va_sld hx hb hX hbl hbA hS hi3 dL_law_406 ?_
  rw [ha3]
  refine lv_aload_n hx hb dL_law_407 rfl (lv_at hl 3 rfl) ?_
  refine fw_ciSL (S := Mem × Int64 × Value) (wf := fun u => W5 k ad u.1 ++ WO o u.2.1 u.2.2) (wN := fun u => (W5 k ad u.1 ++ WO o u.2.1 u.2.2) ++ WM k am g τ) (As := [.ref (ad 0), .int a1, .int a2, .int a3, .ref o]) (rest := []) hC hN (c_L_unlike l hflag D k ad o hp) (vx_cwSW 5 hts (gT (va_wsS RL 129 yL_unlike wq_L_unlike) (mS2 B_113 B_114 B_94 B_22)) rfl rfl rfl (by decide +kernel) ⟨Nat.le_of_ble_eq_true rfl, Nat.le_of_ble_eq_true rfl⟩) rfl hl.1 rfl (Nat.le_of_ble_eq_true rfl) dL_law_408 ⟨by show cells + 1 ≤ 601024; omega, by show slots + 6 ≤ 7293034; omega⟩ (P_left hP) (D_left hD) hS (Jn.left hP hD) (fun k1 u9 H locs hP hD hS hp => ?_)
  obtain ⟨σ2, n3, v4⟩ := u9
  have hP : va_P D vwCl ((W5 k ad σ2 ++ WO o n3 v4) ++ WM k am g τ) H := hP
  have hD : va_D A ((W5 k ad σ2 ++ WO o n3 v4) ++ WM k am g τ) := hD
  refine lv_istore (lv' := [(5, .int k1), (0, .ref b), (1, .ref (ad 0)), (2, .ref (am 0)), (3, .ref o), (4, .int x4)]) hx hb dL_law_411 hl (by decide) rfl (fun ls hl => ?_)
  refine lv_aload_n hx hb dL_law_413 rfl (lv_at hl 3 rfl) ?_
  refine lv_aload_n hx hb dL_law_414 rfl (lv_at hl 1 rfl) ?_
  refine lv_iload hx hb dL_law_415 (lv_at hl 5 rfl) ?_
  refine lv_iconst (v := 1) hx hb dL_law_417 (by decide) ?_
  refine lv_iadd hx hb dL_law_418 ?_
  refine va_sld hx hb hX hbl hbA hS hi1 dL_law_419 ?_
  rw [ha1]
  refine lv_aload_n hx hb dL_law_420 rfl (lv_at hl 1 rfl) ?_
  refine lv_iload hx hb dL_law_421 (lv_at hl 5 rfl) ?_
  refine lv_iconst (v := 2) hx hb dL_law_423 (by decide) ?_
  refine lv_iadd hx hb dL_law_424 ?_
  refine va_sld hx hb hX hbl hbA hS hi2 dL_law_425 ?_
  rw [ha2]
  refine lv_aload_n hx hb dL_law_426 rfl (lv_at hl 1 rfl) ?_
  refine lv_iload hx hb dL_law_427 (lv_at hl 5 rfl) ?_
  refine lv_iconst (v := 3) hx hb dL_law_429 (by decide) ?_
  refine lv_iadd hx hb dL_law_430 ?_
  refine va_sld hx hb hX hbl hbA hS hi3 dL_law_431 ?_
  rw [ha3]
  refine fw_ciV (S := (Nat → Nat) × (Nat → Nat) × Mem) (wf := fun u => WM k u.1 u.2.1 u.2.2) (wN := fun u => (W5 k ad σ2 ++ WO o n3 v4) ++ WM k u.1 u.2.1 u.2.2) (As := [.int a1, .int a2, .int a3]) (rest := []) hC (c_X8_unlike l D k am g hgk hp) (cwV 3 hts (gT (wsV RL 131 RX8 yX8_unlike wq_X8_unlike) (mV2 B_115 B_116 B_117 (iB_A _ A_601) (iB_A _ A_679))) rfl rfl rfl (by decide +kernel) ⟨Nat.le_of_ble_eq_true rfl, Nat.le_of_ble_eq_true rfl⟩) (va_recv hK (P_right hP) (ci := 12) (q0 := 0) rfl rfl) rfl hl.1 rfl (Nat.le_of_ble_eq_true rfl) dL_law_432 ⟨by show cells + 1 + 2 ≤ 601024; omega, by show slots + 6 + 40 ≤ 7293034; omega⟩ (P_right hP) (D_right hD) hS (Jn.right hP hD) (fun r5 u9 H locs hP hD hS hp => ?_)
  obtain ⟨am6, g7, τ8⟩ := u9
  obtain ⟨eam6, hgg7, hp⟩ := hp
  have hP : va_P D vwCl ((W5 k ad σ2 ++ WO o n3 v4) ++ WM k am6 g7 τ8) H := hP
  have hD : va_D A ((W5 k ad σ2 ++ WO o n3 v4) ++ WM k am6 g7 τ8) := hD
  have eam6 : am6 0 = am 0 := eam6
  rw [← eam6] at hl
  refine lv_istore (lv' := [(6, .int r5), (5, .int k1), (0, .ref b), (1, .ref (ad 0)), (2, .ref (am6 0)), (3, .ref o), (4, .int x4)]) hx hb dL_law_435 hl (by decide) rfl (fun ls hl => ?_)
  refine lv_goto (tgt := 1248) hx hb dL_law_437 (by decide) ?_
  exact K σ2 n3 v4 am6 g7 τ8 _ _ _ _ _ hgg7 hp hP hD hS (by omega) (by omega) (lv_sub hl [2, 3, 4, 5, 6] rfl)
def q_case_5 (nx : Mem → Int64 → Value → (Nat → Nat) → (Nat → Nat) → Mem → Prop) (a1 a2 a3 a4 : Int32) (σ : Mem) (n : Int64) (v : Value) (am g : Nat → Nat) (τ : Mem) : Prop := (q_L_preset (fun (k1 : Int32) (σ2 : Mem) (n3 : Int64) (v4 : Value) => (q_X8_preset am g (fun (r5 : Int32) (am6 g7 : Nat → Nat) (τ8 : Mem) => am6 0 = am 0 ∧ gk g7 ∧ nx σ2 n3 v4 am6 g7 τ8) a1 a2 a3 a4 τ)) a1 a2 a3 a4 n v σ)
set_option maxHeartbeats 4000000 in
set_option maxRecDepth 100000 in
theorem cs_5 {p : Program} {e : Env} {s : State} {m : MethodId} {below : List Frame} {meth : Method} {c : Code} (l : Launch) (hflag : l.stackTraces = false) {b L : Nat} {xs : Nat → Int32} (C0 : lw_At p s m meth c b L xs) {D : va_G} {k : Nat → Nat} (hG : GG D k (fun q : Nat => s.heap.size ≤ q) s s.heap) (hN : NC s) {ad am g : Nat → Nat} {o : Nat} {σ τ : Mem} {n : Int64} {v : Value} {x4 a1 a2 a3 a4 : Int32} (hi1 : vp_in (x4 + 1) L) (hi2 : vp_in (x4 + 2) L) (hi3 : vp_in (x4 + 3) L) (hi4 : vp_in (x4 + 4) L) (ha1 : xs (x4 + 1).toNatClampNeg = a1) (ha2 : xs (x4 + 2).toNatClampNeg = a2) (ha3 : xs (x4 + 3).toNatClampNeg = a3) (ha4 : xs (x4 + 4).toNatClampNeg = a4) (hgk : gk g) {cells slots : Nat} (hcl : cells + 100 ≤ 601024) (hsl : slots + 1000 ≤ 7293034) {H : Heap} {locs : List Loc} {ls : Array Slot} {Q : State → Prop} {nx : Mem → Int64 → Value → (Nat → Nat) → (Nat → Nat) → Mem → Prop} (hP : va_P D vwCl ((W5 k ad σ ++ WO o n v) ++ WM k am g τ) H) (hD : va_D (fun q : Nat => s.heap.size ≤ q) ((W5 k ad σ ++ WO o n v) ++ WM k am g τ)) (hS : va_S (fun q : Nat => s.heap.size ≤ q) s.heap H locs) (hl : lv_has ls 7 [(0, .ref b), (1, .ref (ad 0)), (2, .ref (am 0)), (3, .ref o), (4, .int x4)]) (hp : q_case_5 nx a1 a2 a3 a4 σ n v am g τ) (K : ∀ (σ' : Mem) (n' : Int64) (v' : Value) (am' g' : Nat → Nat) (τ' : Mem) (H' : Heap) (locs' : List Loc) (cells' slots' : Nat) (ls' : Array Slot), gk g' → nx σ' n' v' am' g' τ' → va_P D vwCl ((W5 k ad σ' ++ WO o n' v') ++ WM k am' g' τ') H' → va_D (fun q : Nat => s.heap.size ≤ q) ((W5 k ad σ' ++ WO o n' v') ++ WM k am' g' τ') → va_S (fun q : Nat => s.heap.size ≤ q) s.heap H' locs' → cells' ≤ cells + 100 → slots' ≤ slots + 1000 → lv_has ls' 7 [(0, .ref b), (1, .ref (ad 0)), (2, .ref (am' 0)), (3, .ref o), (4, .int x4)] → W p l e room_1 s m #[Value.ref b] below meth c H' locs' cells' slots' Q (F0 m 1248 ls' [])) : W p l e room_1 s m #[Value.ref b] below meth c H locs cells slots Q (F0 m 440 ls []) := by
  obtain ⟨hx, hb, hr, hml, hown, hts0, hX, hbl, hlocks, hgv⟩ := id C0
  have hts : ∀ w ∈ wLAW, w.before #[Value.ref b] s = true := jLAW hts0
  have hA : ∀ q : Nat, s.heap.size ≤ q → (fun q : Nat => s.heap.size ≤ q) q := fun _ h => h
  have hbA : ¬ (fun q : Nat => s.heap.size ≤ q) b := Nat.not_le.mpr hbl
  generalize hAe : (fun q : Nat => s.heap.size ≤ q) = A at hG hP hD hS hA hbA K
  have hC : Cx p m c code 7 s #[Value.ref b] wLAW RL D k A := ⟨⟨hx, hb, hml, hown, hts⟩, hG, hA⟩
  have hK := hG.1
  have hown : s.vm.findClass RL = some m.cls := hown
  have hin_X6 : ∀ w ∈ u_ws RX6 TX6 2, w ∈ wLAW := fun w h => iUB_X6 w h
  unfold q_case_5 at hp
  refine lv_aload_n hx hb dL_law_440 rfl (lv_at hl 1 rfl) ?_
  refine lv_aload_n hx hb dL_law_441 rfl (lv_at hl 0 rfl) ?_
  refine lv_iload hx hb dL_law_442 (lv_at hl 4 rfl) ?_
  refine lv_iconst (v := 1) hx hb dL_law_444 (by decide) ?_
  refine lv_iadd hx hb dL_law_445 ?_
  refine va_sld hx hb hX hbl hbA hS hi1 dL_law_446 ?_
  rw [ha1]
  refine lv_aload_n hx hb dL_law_447 rfl (lv_at hl 0 rfl) ?_
  refine lv_iload hx hb dL_law_448 (lv_at hl 4 rfl) ?_
  refine lv_iconst (v := 2) hx hb dL_law_450 (by decide) ?_
  refine lv_iadd hx hb dL_law_451 ?_
  refine va_sld hx hb hX hbl hbA hS hi2 dL_law_452 ?_
  rw [ha2]
  refine lv_aload_n hx hb dL_law_453 rfl (lv_at hl 0 rfl) ?_
  refine lv_iload hx hb dL_law_454 (lv_at hl 4 rfl) ?_
  refine lv_iconst (v := 3) hx hb dL_law_456 (by decide) ?_
  refine lv_iadd hx hb dL_law_457 ?_
  refine va_sld hx hb hX hbl hbA hS hi3 dL_law_458 ?_
  rw [ha3]
  refine lv_aload_n hx hb dL_law_459 rfl (lv_at hl 0 rfl) ?_
  refine lv_iload hx hb dL_law_460 (lv_at hl 4 rfl) ?_
  refine lv_iconst (v := 4) hx hb dL_law_462 (by decide) ?_
  refine lv_iadd hx hb dL_law_463 ?_
  refine va_sld hx hb hX hbl hbA hS hi4 dL_law_464 ?_
  rw [ha4]
  refine lv_aload_n hx hb dL_law_465 rfl (lv_at hl 3 rfl) ?_
  refine fw_ciSL (S := Mem × Int64 × Value) (wf := fun u => W5 k ad u.1 ++ WO o u.2.1 u.2.2) (wN := fun u => (W5 k ad u.1 ++ WO o u.2.1 u.2.2) ++ WM k am g τ) (As := [.ref (ad 0), .int a1, .int a2, .int a3, .int a4, .ref o]) (rest := []) hC hN (c_L_preset l hflag D k ad o hp) (vx_cwSW 6 hts (gT (va_wsS RL 132 yL_preset wq_L_preset) (mS2 B_118 B_119 B_94 B_26)) rfl rfl rfl (by decide +kernel) ⟨Nat.le_of_ble_eq_true rfl, Nat.le_of_ble_eq_true rfl⟩) rfl hl.1 rfl (Nat.le_of_ble_eq_true rfl) dL_law_466 ⟨by show cells + 1 ≤ 601024; omega, by show slots + 6 ≤ 7293034; omega⟩ (P_left hP) (D_left hD) hS (Jn.left hP hD) (fun k1 u9 H locs hP hD hS hp => ?_)
  obtain ⟨σ2, n3, v4⟩ := u9
  have hP : va_P D vwCl ((W5 k ad σ2 ++ WO o n3 v4) ++ WM k am g τ) H := hP
  have hD : va_D A ((W5 k ad σ2 ++ WO o n3 v4) ++ WM k am g τ) := hD
  refine lv_istore (lv' := [(5, .int k1), (0, .ref b), (1, .ref (ad 0)), (2, .ref (am 0)), (3, .ref o), (4, .int x4)]) hx hb dL_law_469 hl (by decide) rfl (fun ls hl => ?_)
  refine lv_aload_n hx hb dL_law_471 rfl (lv_at hl 3 rfl) ?_
  refine lv_aload_n hx hb dL_law_472 rfl (lv_at hl 1 rfl) ?_
  refine lv_iload hx hb dL_law_473 (lv_at hl 5 rfl) ?_
  refine lv_iconst (v := 1) hx hb dL_law_475 (by decide) ?_
  refine lv_iadd hx hb dL_law_476 ?_
  refine va_sld hx hb hX hbl hbA hS hi1 dL_law_477 ?_
  rw [ha1]
  refine lv_aload_n hx hb dL_law_478 rfl (lv_at hl 1 rfl) ?_
  refine lv_iload hx hb dL_law_479 (lv_at hl 5 rfl) ?_
  refine lv_iconst (v := 2) hx hb dL_law_481 (by decide) ?_
  refine lv_iadd hx hb dL_law_482 ?_
  refine va_sld hx hb hX hbl hbA hS hi2 dL_law_483 ?_
  rw [ha2]
  refine lv_aload_n hx hb dL_law_484 rfl (lv_at hl 1 rfl) ?_
  refine lv_iload hx hb dL_law_485 (lv_at hl 5 rfl) ?_
  refine lv_iconst (v := 3) hx hb dL_law_487 (by decide) ?_
  refine lv_iadd hx hb dL_law_488 ?_
  refine va_sld hx hb hX hbl hbA hS hi3 dL_law_489 ?_
  rw [ha3]
  refine lv_aload_n hx hb dL_law_490 rfl (lv_at hl 1 rfl) ?_
  refine lv_iload hx hb dL_law_491 (lv_at hl 5 rfl) ?_
  refine lv_iconst (v := 4) hx hb dL_law_493 (by decide) ?_
  refine lv_iadd hx hb dL_law_494 ?_
  refine va_sld hx hb hX hbl hbA hS hi4 dL_law_495 ?_
  rw [ha4]
  refine fw_ciV (S := (Nat → Nat) × (Nat → Nat) × Mem) (wf := fun u => WM k u.1 u.2.1 u.2.2) (wN := fun u => (W5 k ad σ2 ++ WO o n3 v4) ++ WM k u.1 u.2.1 u.2.2) (As := [.int a1, .int a2, .int a3, .int a4]) (rest := []) hC (c_X8_preset l D k am g hgk hp) (cwV 4 hts (gT (wsV RL 134 RX8 yX8_preset wq_X8_preset) (mV2 B_120 B_121 B_122 (iB_A _ A_601) (iB_A _ A_680))) rfl rfl rfl (by decide +kernel) ⟨Nat.le_of_ble_eq_true rfl, Nat.le_of_ble_eq_true rfl⟩) (va_recv hK (P_right hP) (ci := 12) (q0 := 0) rfl rfl) rfl hl.1 rfl (Nat.le_of_ble_eq_true rfl) dL_law_496 ⟨by show cells + 1 + 2 ≤ 601024; omega, by show slots + 6 + 40 ≤ 7293034; omega⟩ (P_right hP) (D_right hD) hS (Jn.right hP hD) (fun r5 u9 H locs hP hD hS hp => ?_)
  obtain ⟨am6, g7, τ8⟩ := u9
  obtain ⟨eam6, hgg7, hp⟩ := hp
  have hP : va_P D vwCl ((W5 k ad σ2 ++ WO o n3 v4) ++ WM k am6 g7 τ8) H := hP
  have hD : va_D A ((W5 k ad σ2 ++ WO o n3 v4) ++ WM k am6 g7 τ8) := hD
  have eam6 : am6 0 = am 0 := eam6
  rw [← eam6] at hl
  refine lv_istore (lv' := [(6, .int r5), (5, .int k1), (0, .ref b), (1, .ref (ad 0)), (2, .ref (am6 0)), (3, .ref o), (4, .int x4)]) hx hb dL_law_499 hl (by decide) rfl (fun ls hl => ?_)
  refine lv_goto (tgt := 1248) hx hb dL_law_501 (by decide) ?_
  exact K σ2 n3 v4 am6 g7 τ8 _ _ _ _ _ hgg7 hp hP hD hS (by omega) (by omega) (lv_sub hl [2, 3, 4, 5, 6] rfl)
def q_case_6 (nx : Mem → Int64 → Value → (Nat → Nat) → (Nat → Nat) → Mem → Prop) (a1 a2 a3 a4 : Int32) (σ : Mem) (n : Int64) (v : Value) (am g : Nat → Nat) (τ : Mem) : Prop := ((a2 = 0 → (q_L_approve (fun (k2 : Int32) (σ3 : Mem) (n4 : Int64) (v5 : Value) => (q_X8_approve (g 0) (g 2) (fun (r6 : Int32) (τ7 : Mem) => nx σ3 n4 v5 am g τ7) a1 0 τ)) a1 0 n v σ)) ∧ (¬ (a2 = 0) → (q_L_approve (fun (k8 : Int32) (σ9 : Mem) (n10 : Int64) (v11 : Value) => (q_X8_approve (g 0) (g 2) (fun (r12 : Int32) (τ13 : Mem) => nx σ9 n10 v11 am g τ13) a1 1 τ)) a1 1 n v σ)))
set_option maxHeartbeats 4000000 in
set_option maxRecDepth 100000 in
theorem cs_6 {p : Program} {e : Env} {s : State} {m : MethodId} {below : List Frame} {meth : Method} {c : Code} (l : Launch) (hflag : l.stackTraces = false) {b L : Nat} {xs : Nat → Int32} (C0 : lw_At p s m meth c b L xs) {D : va_G} {k : Nat → Nat} (hG : GG D k (fun q : Nat => s.heap.size ≤ q) s s.heap) (hN : NC s) {ad am g : Nat → Nat} {o : Nat} {σ τ : Mem} {n : Int64} {v : Value} {x4 a1 a2 a3 a4 : Int32} (hi1 : vp_in (x4 + 1) L) (hi2 : vp_in (x4 + 2) L) (hi3 : vp_in (x4 + 3) L) (hi4 : vp_in (x4 + 4) L) (ha1 : xs (x4 + 1).toNatClampNeg = a1) (ha2 : xs (x4 + 2).toNatClampNeg = a2) (ha3 : xs (x4 + 3).toNatClampNeg = a3) (ha4 : xs (x4 + 4).toNatClampNeg = a4) (hgk : gk g) {cells slots : Nat} (hcl : cells + 100 ≤ 601024) (hsl : slots + 1000 ≤ 7293034) {H : Heap} {locs : List Loc} {ls : Array Slot} {Q : State → Prop} {nx : Mem → Int64 → Value → (Nat → Nat) → (Nat → Nat) → Mem → Prop} (hP : va_P D vwCl ((W5 k ad σ ++ WO o n v) ++ WM k am g τ) H) (hD : va_D (fun q : Nat => s.heap.size ≤ q) ((W5 k ad σ ++ WO o n v) ++ WM k am g τ)) (hS : va_S (fun q : Nat => s.heap.size ≤ q) s.heap H locs) (hl : lv_has ls 7 [(0, .ref b), (1, .ref (ad 0)), (2, .ref (am 0)), (3, .ref o), (4, .int x4)]) (hp : q_case_6 nx a1 a2 a3 a4 σ n v am g τ) (K : ∀ (σ' : Mem) (n' : Int64) (v' : Value) (am' g' : Nat → Nat) (τ' : Mem) (H' : Heap) (locs' : List Loc) (cells' slots' : Nat) (ls' : Array Slot), gk g' → nx σ' n' v' am' g' τ' → va_P D vwCl ((W5 k ad σ' ++ WO o n' v') ++ WM k am' g' τ') H' → va_D (fun q : Nat => s.heap.size ≤ q) ((W5 k ad σ' ++ WO o n' v') ++ WM k am' g' τ') → va_S (fun q : Nat => s.heap.size ≤ q) s.heap H' locs' → cells' ≤ cells + 100 → slots' ≤ slots + 1000 → lv_has ls' 7 [(0, .ref b), (1, .ref (ad 0)), (2, .ref (am' 0)), (3, .ref o), (4, .int x4)] → W p l e room_1 s m #[Value.ref b] below meth c H' locs' cells' slots' Q (F0 m 1248 ls' [])) : W p l e room_1 s m #[Value.ref b] below meth c H locs cells slots Q (F0 m 504 ls []) := by
  obtain ⟨hx, hb, hr, hml, hown, hts0, hX, hbl, hlocks, hgv⟩ := id C0
  have hts : ∀ w ∈ wLAW, w.before #[Value.ref b] s = true := jLAW hts0
  have hA : ∀ q : Nat, s.heap.size ≤ q → (fun q : Nat => s.heap.size ≤ q) q := fun _ h => h
  have hbA : ¬ (fun q : Nat => s.heap.size ≤ q) b := Nat.not_le.mpr hbl
  generalize hAe : (fun q : Nat => s.heap.size ≤ q) = A at hG hP hD hS hA hbA K
  have hC : Cx p m c code 7 s #[Value.ref b] wLAW RL D k A := ⟨⟨hx, hb, hml, hown, hts⟩, hG, hA⟩
  have hK := hG.1
  have hown : s.vm.findClass RL = some m.cls := hown
  have hin_X6 : ∀ w ∈ u_ws RX6 TX6 2, w ∈ wLAW := fun w h => iUB_X6 w h
  unfold q_case_6 at hp
  refine lv_aload_n hx hb dL_law_504 rfl (lv_at hl 1 rfl) ?_
  refine lv_aload_n hx hb dL_law_505 rfl (lv_at hl 0 rfl) ?_
  refine lv_iload hx hb dL_law_506 (lv_at hl 4 rfl) ?_
  refine lv_iconst (v := 1) hx hb dL_law_508 (by decide) ?_
  refine lv_iadd hx hb dL_law_509 ?_
  refine va_sld hx hb hX hbl hbA hS hi1 dL_law_510 ?_
  rw [ha1]
  refine lv_aload_n hx hb dL_law_511 rfl (lv_at hl 0 rfl) ?_
  refine lv_iload hx hb dL_law_512 (lv_at hl 4 rfl) ?_
  refine lv_iconst (v := 2) hx hb dL_law_514 (by decide) ?_
  refine lv_iadd hx hb dL_law_515 ?_
  refine va_sld hx hb hX hbl hbA hS hi2 dL_law_516 ?_
  rw [ha2]
  refine lv_if_eq (tgt := 524) hx hb dL_law_517 (by decide) (fun c1 => ?_) (fun c1 => ?_)
  · have hp := hp.1 c1
    refine lv_iconst (v := 0) hx hb dL_law_524 (by decide) ?_
    refine lv_aload_n hx hb dL_law_525 rfl (lv_at hl 3 rfl) ?_
    refine fw_ciSL (S := Mem × Int64 × Value) (wf := fun u => W5 k ad u.1 ++ WO o u.2.1 u.2.2) (wN := fun u => (W5 k ad u.1 ++ WO o u.2.1 u.2.2) ++ WM k am g τ) (As := [.ref (ad 0), .int a1, .int 0, .ref o]) (rest := []) hC hN (c_L_approve l hflag D k ad o hp) (vx_cwSW 4 hts (gT (va_wsS RL 135 yL_approve wq_L_approve) (mS2 B_123 B_124 B_94 B_30)) rfl rfl rfl (by decide +kernel) ⟨Nat.le_of_ble_eq_true rfl, Nat.le_of_ble_eq_true rfl⟩) rfl hl.1 rfl (Nat.le_of_ble_eq_true rfl) dL_law_526 ⟨by show cells + 1 ≤ 601024; omega, by show slots + 6 ≤ 7293034; omega⟩ (P_left hP) (D_left hD) hS (Jn.left hP hD) (fun k2 u9 H locs hP hD hS hp => ?_)
    obtain ⟨σ3, n4, v5⟩ := u9
    have hP : va_P D vwCl ((W5 k ad σ3 ++ WO o n4 v5) ++ WM k am g τ) H := hP
    have hD : va_D A ((W5 k ad σ3 ++ WO o n4 v5) ++ WM k am g τ) := hD
    refine lv_istore (lv' := [(5, .int k2), (0, .ref b), (1, .ref (ad 0)), (2, .ref (am 0)), (3, .ref o), (4, .int x4)]) hx hb dL_law_529 hl (by decide) rfl (fun ls hl => ?_)
    refine lv_aload_n hx hb dL_law_531 rfl (lv_at hl 3 rfl) ?_
    refine lv_aload_n hx hb dL_law_532 rfl (lv_at hl 1 rfl) ?_
    refine lv_iload hx hb dL_law_533 (lv_at hl 5 rfl) ?_
    refine lv_iconst (v := 1) hx hb dL_law_535 (by decide) ?_
    refine lv_iadd hx hb dL_law_536 ?_
    refine va_sld hx hb hX hbl hbA hS hi1 dL_law_537 ?_
    rw [ha1]
    refine lv_aload_n hx hb dL_law_538 rfl (lv_at hl 1 rfl) ?_
    refine lv_iload hx hb dL_law_539 (lv_at hl 5 rfl) ?_
    refine lv_iconst (v := 2) hx hb dL_law_541 (by decide) ?_
    refine lv_iadd hx hb dL_law_542 ?_
    refine va_sld hx hb hX hbl hbA hS hi2 dL_law_543 ?_
    rw [ha2]
    refine lv_if_eq (tgt := 551) hx hb dL_law_544 (by decide) (fun _ => ?_) (fun c9 => absurd c1 c9)
    refine lv_iconst (v := 0) hx hb dL_law_551 (by decide) ?_
    refine fw_ciV (wf := fun u : Mem => WM k am g u) (wN := fun u : Mem => (W5 k ad σ3 ++ WO o n4 v5) ++ WM k am g u) (As := [.int a1, .int 0]) (rest := []) hC (c_X8_approve l D k am g hgk.1 hp) (cwV 2 hts (gT (wsV RL 138 RX8 yX8_approve wq_X8_approve) (mV2 B_125 B_126 B_127 (iB_A _ A_601) (iB_A _ A_684))) rfl rfl rfl (by decide +kernel) ⟨Nat.le_of_ble_eq_true rfl, Nat.le_of_ble_eq_true rfl⟩) (va_recv hK (P_right hP) (ci := 12) (q0 := 0) rfl rfl) rfl hl.1 rfl (Nat.le_of_ble_eq_true rfl) dL_law_552 ⟨by show cells + 1 + 0 ≤ 601024; omega, by show slots + 6 + 0 ≤ 7293034; omega⟩ (P_right hP) (D_right hD) hS (Jn.right hP hD) (fun r6 τ7 H locs hP hD hS hp => ?_)
    have hP : va_P D vwCl ((W5 k ad σ3 ++ WO o n4 v5) ++ WM k am g τ7) H := hP
    have hD : va_D A ((W5 k ad σ3 ++ WO o n4 v5) ++ WM k am g τ7) := hD
    refine lv_istore (lv' := [(6, .int r6), (5, .int k2), (0, .ref b), (1, .ref (ad 0)), (2, .ref (am 0)), (3, .ref o), (4, .int x4)]) hx hb dL_law_555 hl (by decide) rfl (fun ls hl => ?_)
    refine lv_goto (tgt := 1248) hx hb dL_law_557 (by decide) ?_
    exact K σ3 n4 v5 am g τ7 _ _ _ _ _ hgk hp hP hD hS (by omega) (by omega) (lv_sub hl [2, 3, 4, 5, 6] rfl)
  · have hp := hp.2 c1
    refine lv_iconst (v := 1) hx hb dL_law_520 (by decide) ?_
    refine lv_goto (tgt := 525) hx hb dL_law_521 (by decide) ?_
    refine lv_aload_n hx hb dL_law_525 rfl (lv_at hl 3 rfl) ?_
    refine fw_ciSL (S := Mem × Int64 × Value) (wf := fun u => W5 k ad u.1 ++ WO o u.2.1 u.2.2) (wN := fun u => (W5 k ad u.1 ++ WO o u.2.1 u.2.2) ++ WM k am g τ) (As := [.ref (ad 0), .int a1, .int 1, .ref o]) (rest := []) hC hN (c_L_approve l hflag D k ad o hp) (vx_cwSW 4 hts (gT (va_wsS RL 135 yL_approve wq_L_approve) (mS2 B_123 B_124 B_94 B_30)) rfl rfl rfl (by decide +kernel) ⟨Nat.le_of_ble_eq_true rfl, Nat.le_of_ble_eq_true rfl⟩) rfl hl.1 rfl (Nat.le_of_ble_eq_true rfl) dL_law_526 ⟨by show cells + 1 ≤ 601024; omega, by show slots + 6 ≤ 7293034; omega⟩ (P_left hP) (D_left hD) hS (Jn.left hP hD) (fun k8 u9 H locs hP hD hS hp => ?_)
    obtain ⟨σ9, n10, v11⟩ := u9
    have hP : va_P D vwCl ((W5 k ad σ9 ++ WO o n10 v11) ++ WM k am g τ) H := hP
    have hD : va_D A ((W5 k ad σ9 ++ WO o n10 v11) ++ WM k am g τ) := hD
    refine lv_istore (lv' := [(5, .int k8), (0, .ref b), (1, .ref (ad 0)), (2, .ref (am 0)), (3, .ref o), (4, .int x4)]) hx hb dL_law_529 hl (by decide) rfl (fun ls hl => ?_)
    refine lv_aload_n hx hb dL_law_531 rfl (lv_at hl 3 rfl) ?_
    refine lv_aload_n hx hb dL_law_532 rfl (lv_at hl 1 rfl) ?_
    refine lv_iload hx hb dL_law_533 (lv_at hl 5 rfl) ?_
    refine lv_iconst (v := 1) hx hb dL_law_535 (by decide) ?_
    refine lv_iadd hx hb dL_law_536 ?_
    refine va_sld hx hb hX hbl hbA hS hi1 dL_law_537 ?_
    rw [ha1]
    refine lv_aload_n hx hb dL_law_538 rfl (lv_at hl 1 rfl) ?_
    refine lv_iload hx hb dL_law_539 (lv_at hl 5 rfl) ?_
    refine lv_iconst (v := 2) hx hb dL_law_541 (by decide) ?_
    refine lv_iadd hx hb dL_law_542 ?_
    refine va_sld hx hb hX hbl hbA hS hi2 dL_law_543 ?_
    rw [ha2]
    refine lv_if_eq (tgt := 551) hx hb dL_law_544 (by decide) (fun c9 => absurd c9 c1) (fun _ => ?_)
    refine lv_iconst (v := 1) hx hb dL_law_547 (by decide) ?_
    refine lv_goto (tgt := 552) hx hb dL_law_548 (by decide) ?_
    refine fw_ciV (wf := fun u : Mem => WM k am g u) (wN := fun u : Mem => (W5 k ad σ9 ++ WO o n10 v11) ++ WM k am g u) (As := [.int a1, .int 1]) (rest := []) hC (c_X8_approve l D k am g hgk.1 hp) (cwV 2 hts (gT (wsV RL 138 RX8 yX8_approve wq_X8_approve) (mV2 B_125 B_126 B_127 (iB_A _ A_601) (iB_A _ A_684))) rfl rfl rfl (by decide +kernel) ⟨Nat.le_of_ble_eq_true rfl, Nat.le_of_ble_eq_true rfl⟩) (va_recv hK (P_right hP) (ci := 12) (q0 := 0) rfl rfl) rfl hl.1 rfl (Nat.le_of_ble_eq_true rfl) dL_law_552 ⟨by show cells + 1 + 0 ≤ 601024; omega, by show slots + 6 + 0 ≤ 7293034; omega⟩ (P_right hP) (D_right hD) hS (Jn.right hP hD) (fun r12 τ13 H locs hP hD hS hp => ?_)
    have hP : va_P D vwCl ((W5 k ad σ9 ++ WO o n10 v11) ++ WM k am g τ13) H := hP
    have hD : va_D A ((W5 k ad σ9 ++ WO o n10 v11) ++ WM k am g τ13) := hD
    refine lv_istore (lv' := [(6, .int r12), (5, .int k8), (0, .ref b), (1, .ref (ad 0)), (2, .ref (am 0)), (3, .ref o), (4, .int x4)]) hx hb dL_law_555 hl (by decide) rfl (fun ls hl => ?_)
    refine lv_goto (tgt := 1248) hx hb dL_law_557 (by decide) ?_
    exact K σ9 n10 v11 am g τ13 _ _ _ _ _ hgk hp hP hD hS (by omega) (by omega) (lv_sub hl [2, 3, 4, 5, 6] rfl)
def q_case_7 (nx : Mem → Int64 → Value → (Nat → Nat) → (Nat → Nat) → Mem → Prop) (a1 a2 a3 a4 : Int32) (σ : Mem) (n : Int64) (v : Value) (am g : Nat → Nat) (τ : Mem) : Prop := ((a2 = 0 → (q_L_withdraw (fun (k2 : Int32) (σ3 : Mem) (n4 : Int64) (v5 : Value) => (q_X8_withdraw (g 0) (g 2) (fun (r6 : Int32) (τ7 : Mem) => nx σ3 n4 v5 am g τ7) a1 0 τ)) a1 0 n v σ)) ∧ (¬ (a2 = 0) → (q_L_withdraw (fun (k8 : Int32) (σ9 : Mem) (n10 : Int64) (v11 : Value) => (q_X8_withdraw (g 0) (g 2) (fun (r12 : Int32) (τ13 : Mem) => nx σ9 n10 v11 am g τ13) a1 1 τ)) a1 1 n v σ)))
set_option maxHeartbeats 4000000 in
set_option maxRecDepth 100000 in
theorem cs_7 {p : Program} {e : Env} {s : State} {m : MethodId} {below : List Frame} {meth : Method} {c : Code} (l : Launch) (hflag : l.stackTraces = false) {b L : Nat} {xs : Nat → Int32} (C0 : lw_At p s m meth c b L xs) {D : va_G} {k : Nat → Nat} (hG : GG D k (fun q : Nat => s.heap.size ≤ q) s s.heap) (hN : NC s) {ad am g : Nat → Nat} {o : Nat} {σ τ : Mem} {n : Int64} {v : Value} {x4 a1 a2 a3 a4 : Int32} (hi1 : vp_in (x4 + 1) L) (hi2 : vp_in (x4 + 2) L) (hi3 : vp_in (x4 + 3) L) (hi4 : vp_in (x4 + 4) L) (ha1 : xs (x4 + 1).toNatClampNeg = a1) (ha2 : xs (x4 + 2).toNatClampNeg = a2) (ha3 : xs (x4 + 3).toNatClampNeg = a3) (ha4 : xs (x4 + 4).toNatClampNeg = a4) (hgk : gk g) {cells slots : Nat} (hcl : cells + 100 ≤ 601024) (hsl : slots + 1000 ≤ 7293034) {H : Heap} {locs : List Loc} {ls : Array Slot} {Q : State → Prop} {nx : Mem → Int64 → Value → (Nat → Nat) → (Nat → Nat) → Mem → Prop} (hP : va_P D vwCl ((W5 k ad σ ++ WO o n v) ++ WM k am g τ) H) (hD : va_D (fun q : Nat => s.heap.size ≤ q) ((W5 k ad σ ++ WO o n v) ++ WM k am g τ)) (hS : va_S (fun q : Nat => s.heap.size ≤ q) s.heap H locs) (hl : lv_has ls 7 [(0, .ref b), (1, .ref (ad 0)), (2, .ref (am 0)), (3, .ref o), (4, .int x4)]) (hp : q_case_7 nx a1 a2 a3 a4 σ n v am g τ) (K : ∀ (σ' : Mem) (n' : Int64) (v' : Value) (am' g' : Nat → Nat) (τ' : Mem) (H' : Heap) (locs' : List Loc) (cells' slots' : Nat) (ls' : Array Slot), gk g' → nx σ' n' v' am' g' τ' → va_P D vwCl ((W5 k ad σ' ++ WO o n' v') ++ WM k am' g' τ') H' → va_D (fun q : Nat => s.heap.size ≤ q) ((W5 k ad σ' ++ WO o n' v') ++ WM k am' g' τ') → va_S (fun q : Nat => s.heap.size ≤ q) s.heap H' locs' → cells' ≤ cells + 100 → slots' ≤ slots + 1000 → lv_has ls' 7 [(0, .ref b), (1, .ref (ad 0)), (2, .ref (am' 0)), (3, .ref o), (4, .int x4)] → W p l e room_1 s m #[Value.ref b] below meth c H' locs' cells' slots' Q (F0 m 1248 ls' [])) : W p l e room_1 s m #[Value.ref b] below meth c H locs cells slots Q (F0 m 560 ls []) := by
  obtain ⟨hx, hb, hr, hml, hown, hts0, hX, hbl, hlocks, hgv⟩ := id C0
  have hts : ∀ w ∈ wLAW, w.before #[Value.ref b] s = true := jLAW hts0
  have hA : ∀ q : Nat, s.heap.size ≤ q → (fun q : Nat => s.heap.size ≤ q) q := fun _ h => h
  have hbA : ¬ (fun q : Nat => s.heap.size ≤ q) b := Nat.not_le.mpr hbl
  generalize hAe : (fun q : Nat => s.heap.size ≤ q) = A at hG hP hD hS hA hbA K
  have hC : Cx p m c code 7 s #[Value.ref b] wLAW RL D k A := ⟨⟨hx, hb, hml, hown, hts⟩, hG, hA⟩
  have hK := hG.1
  have hown : s.vm.findClass RL = some m.cls := hown
  have hin_X6 : ∀ w ∈ u_ws RX6 TX6 2, w ∈ wLAW := fun w h => iUB_X6 w h
  unfold q_case_7 at hp
  refine lv_aload_n hx hb dL_law_560 rfl (lv_at hl 1 rfl) ?_
  refine lv_aload_n hx hb dL_law_561 rfl (lv_at hl 0 rfl) ?_
  refine lv_iload hx hb dL_law_562 (lv_at hl 4 rfl) ?_
  refine lv_iconst (v := 1) hx hb dL_law_564 (by decide) ?_
  refine lv_iadd hx hb dL_law_565 ?_
  refine va_sld hx hb hX hbl hbA hS hi1 dL_law_566 ?_
  rw [ha1]
  refine lv_aload_n hx hb dL_law_567 rfl (lv_at hl 0 rfl) ?_
  refine lv_iload hx hb dL_law_568 (lv_at hl 4 rfl) ?_
  refine lv_iconst (v := 2) hx hb dL_law_570 (by decide) ?_
  refine lv_iadd hx hb dL_law_571 ?_
  refine va_sld hx hb hX hbl hbA hS hi2 dL_law_572 ?_
  rw [ha2]
  refine lv_if_eq (tgt := 580) hx hb dL_law_573 (by decide) (fun c1 => ?_) (fun c1 => ?_)
  · have hp := hp.1 c1
    refine lv_iconst (v := 0) hx hb dL_law_580 (by decide) ?_
    refine lv_aload_n hx hb dL_law_581 rfl (lv_at hl 3 rfl) ?_
    refine fw_ciSL (S := Mem × Int64 × Value) (wf := fun u => W5 k ad u.1 ++ WO o u.2.1 u.2.2) (wN := fun u => (W5 k ad u.1 ++ WO o u.2.1 u.2.2) ++ WM k am g τ) (As := [.ref (ad 0), .int a1, .int 0, .ref o]) (rest := []) hC hN (c_L_withdraw l hflag D k ad o hp) (vx_cwSW 4 hts (gT (va_wsS RL 139 yL_withdraw wq_L_withdraw) (mS2 B_128 B_129 B_94 B_34)) rfl rfl rfl (by decide +kernel) ⟨Nat.le_of_ble_eq_true rfl, Nat.le_of_ble_eq_true rfl⟩) rfl hl.1 rfl (Nat.le_of_ble_eq_true rfl) dL_law_582 ⟨by show cells + 1 ≤ 601024; omega, by show slots + 6 ≤ 7293034; omega⟩ (P_left hP) (D_left hD) hS (Jn.left hP hD) (fun k2 u9 H locs hP hD hS hp => ?_)
    obtain ⟨σ3, n4, v5⟩ := u9
    have hP : va_P D vwCl ((W5 k ad σ3 ++ WO o n4 v5) ++ WM k am g τ) H := hP
    have hD : va_D A ((W5 k ad σ3 ++ WO o n4 v5) ++ WM k am g τ) := hD
    refine lv_istore (lv' := [(5, .int k2), (0, .ref b), (1, .ref (ad 0)), (2, .ref (am 0)), (3, .ref o), (4, .int x4)]) hx hb dL_law_585 hl (by decide) rfl (fun ls hl => ?_)
    refine lv_aload_n hx hb dL_law_587 rfl (lv_at hl 3 rfl) ?_
    refine lv_aload_n hx hb dL_law_588 rfl (lv_at hl 1 rfl) ?_
    refine lv_iload hx hb dL_law_589 (lv_at hl 5 rfl) ?_
    refine lv_iconst (v := 1) hx hb dL_law_591 (by decide) ?_
    refine lv_iadd hx hb dL_law_592 ?_
    refine va_sld hx hb hX hbl hbA hS hi1 dL_law_593 ?_
    rw [ha1]
    refine lv_aload_n hx hb dL_law_594 rfl (lv_at hl 1 rfl) ?_
    refine lv_iload hx hb dL_law_595 (lv_at hl 5 rfl) ?_
    refine lv_iconst (v := 2) hx hb dL_law_597 (by decide) ?_
    refine lv_iadd hx hb dL_law_598 ?_
    refine va_sld hx hb hX hbl hbA hS hi2 dL_law_599 ?_
    rw [ha2]
    refine lv_if_eq (tgt := 607) hx hb dL_law_600 (by decide) (fun _ => ?_) (fun c9 => absurd c1 c9)
    refine lv_iconst (v := 0) hx hb dL_law_607 (by decide) ?_
    refine fw_ciV (wf := fun u : Mem => WM k am g u) (wN := fun u : Mem => (W5 k ad σ3 ++ WO o n4 v5) ++ WM k am g u) (As := [.int a1, .int 0]) (rest := []) hC (c_X8_withdraw l D k am g hgk.1 hp) (cwV 2 hts (gT (wsV RL 141 RX8 yX8_withdraw wq_X8_withdraw) (mV2 B_130 B_131 B_132 (iB_A _ A_601) (iB_A _ A_685))) rfl rfl rfl (by decide +kernel) ⟨Nat.le_of_ble_eq_true rfl, Nat.le_of_ble_eq_true rfl⟩) (va_recv hK (P_right hP) (ci := 12) (q0 := 0) rfl rfl) rfl hl.1 rfl (Nat.le_of_ble_eq_true rfl) dL_law_608 ⟨by show cells + 1 + 0 ≤ 601024; omega, by show slots + 6 + 0 ≤ 7293034; omega⟩ (P_right hP) (D_right hD) hS (Jn.right hP hD) (fun r6 τ7 H locs hP hD hS hp => ?_)
    have hP : va_P D vwCl ((W5 k ad σ3 ++ WO o n4 v5) ++ WM k am g τ7) H := hP
    have hD : va_D A ((W5 k ad σ3 ++ WO o n4 v5) ++ WM k am g τ7) := hD
    refine lv_istore (lv' := [(6, .int r6), (5, .int k2), (0, .ref b), (1, .ref (ad 0)), (2, .ref (am 0)), (3, .ref o), (4, .int x4)]) hx hb dL_law_611 hl (by decide) rfl (fun ls hl => ?_)
    refine lv_goto (tgt := 1248) hx hb dL_law_613 (by decide) ?_
    exact K σ3 n4 v5 am g τ7 _ _ _ _ _ hgk hp hP hD hS (by omega) (by omega) (lv_sub hl [2, 3, 4, 5, 6] rfl)
  · have hp := hp.2 c1
    refine lv_iconst (v := 1) hx hb dL_law_576 (by decide) ?_
    refine lv_goto (tgt := 581) hx hb dL_law_577 (by decide) ?_
    refine lv_aload_n hx hb dL_law_581 rfl (lv_at hl 3 rfl) ?_
    refine fw_ciSL (S := Mem × Int64 × Value) (wf := fun u => W5 k ad u.1 ++ WO o u.2.1 u.2.2) (wN := fun u => (W5 k ad u.1 ++ WO o u.2.1 u.2.2) ++ WM k am g τ) (As := [.ref (ad 0), .int a1, .int 1, .ref o]) (rest := []) hC hN (c_L_withdraw l hflag D k ad o hp) (vx_cwSW 4 hts (gT (va_wsS RL 139 yL_withdraw wq_L_withdraw) (mS2 B_128 B_129 B_94 B_34)) rfl rfl rfl (by decide +kernel) ⟨Nat.le_of_ble_eq_true rfl, Nat.le_of_ble_eq_true rfl⟩) rfl hl.1 rfl (Nat.le_of_ble_eq_true rfl) dL_law_582 ⟨by show cells + 1 ≤ 601024; omega, by show slots + 6 ≤ 7293034; omega⟩ (P_left hP) (D_left hD) hS (Jn.left hP hD) (fun k8 u9 H locs hP hD hS hp => ?_)
    obtain ⟨σ9, n10, v11⟩ := u9
    have hP : va_P D vwCl ((W5 k ad σ9 ++ WO o n10 v11) ++ WM k am g τ) H := hP
    have hD : va_D A ((W5 k ad σ9 ++ WO o n10 v11) ++ WM k am g τ) := hD
    refine lv_istore (lv' := [(5, .int k8), (0, .ref b), (1, .ref (ad 0)), (2, .ref (am 0)), (3, .ref o), (4, .int x4)]) hx hb dL_law_585 hl (by decide) rfl (fun ls hl => ?_)
    refine lv_aload_n hx hb dL_law_587 rfl (lv_at hl 3 rfl) ?_
    refine lv_aload_n hx hb dL_law_588 rfl (lv_at hl 1 rfl) ?_
    refine lv_iload hx hb dL_law_589 (lv_at hl 5 rfl) ?_
    refine lv_iconst (v := 1) hx hb dL_law_591 (by decide) ?_
    refine lv_iadd hx hb dL_law_592 ?_
    refine va_sld hx hb hX hbl hbA hS hi1 dL_law_593 ?_
    rw [ha1]
    refine lv_aload_n hx hb dL_law_594 rfl (lv_at hl 1 rfl) ?_
    refine lv_iload hx hb dL_law_595 (lv_at hl 5 rfl) ?_
    refine lv_iconst (v := 2) hx hb dL_law_597 (by decide) ?_
    refine lv_iadd hx hb dL_law_598 ?_
    refine va_sld hx hb hX hbl hbA hS hi2 dL_law_599 ?_
    rw [ha2]
    refine lv_if_eq (tgt := 607) hx hb dL_law_600 (by decide) (fun c9 => absurd c9 c1) (fun _ => ?_)
    refine lv_iconst (v := 1) hx hb dL_law_603 (by decide) ?_
    refine lv_goto (tgt := 608) hx hb dL_law_604 (by decide) ?_
    refine fw_ciV (wf := fun u : Mem => WM k am g u) (wN := fun u : Mem => (W5 k ad σ9 ++ WO o n10 v11) ++ WM k am g u) (As := [.int a1, .int 1]) (rest := []) hC (c_X8_withdraw l D k am g hgk.1 hp) (cwV 2 hts (gT (wsV RL 141 RX8 yX8_withdraw wq_X8_withdraw) (mV2 B_130 B_131 B_132 (iB_A _ A_601) (iB_A _ A_685))) rfl rfl rfl (by decide +kernel) ⟨Nat.le_of_ble_eq_true rfl, Nat.le_of_ble_eq_true rfl⟩) (va_recv hK (P_right hP) (ci := 12) (q0 := 0) rfl rfl) rfl hl.1 rfl (Nat.le_of_ble_eq_true rfl) dL_law_608 ⟨by show cells + 1 + 0 ≤ 601024; omega, by show slots + 6 + 0 ≤ 7293034; omega⟩ (P_right hP) (D_right hD) hS (Jn.right hP hD) (fun r12 τ13 H locs hP hD hS hp => ?_)
    have hP : va_P D vwCl ((W5 k ad σ9 ++ WO o n10 v11) ++ WM k am g τ13) H := hP
    have hD : va_D A ((W5 k ad σ9 ++ WO o n10 v11) ++ WM k am g τ13) := hD
    refine lv_istore (lv' := [(6, .int r12), (5, .int k8), (0, .ref b), (1, .ref (ad 0)), (2, .ref (am 0)), (3, .ref o), (4, .int x4)]) hx hb dL_law_611 hl (by decide) rfl (fun ls hl => ?_)
    refine lv_goto (tgt := 1248) hx hb dL_law_613 (by decide) ?_
    exact K σ9 n10 v11 am g τ13 _ _ _ _ _ hgk hp hP hD hS (by omega) (by omega) (lv_sub hl [2, 3, 4, 5, 6] rfl)
def q_case_8 (nx : Mem → Int64 → Value → (Nat → Nat) → (Nat → Nat) → Mem → Prop) (a1 a2 a3 a4 : Int32) (σ : Mem) (n : Int64) (v : Value) (am g : Nat → Nat) (τ : Mem) : Prop := (q_L_weight (fun (k1 : Int32) (σ2 : Mem) (n3 : Int64) (v4 : Value) => (q_X8_weight (g 0) (g 2) (fun (r5 : Int32) (τ6 : Mem) => nx σ2 n3 v4 am g τ6) a1 a2 τ)) a1 a2 n v σ)
set_option maxHeartbeats 4000000 in
set_option maxRecDepth 100000 in
theorem cs_8 {p : Program} {e : Env} {s : State} {m : MethodId} {below : List Frame} {meth : Method} {c : Code} (l : Launch) (hflag : l.stackTraces = false) {b L : Nat} {xs : Nat → Int32} (C0 : lw_At p s m meth c b L xs) {D : va_G} {k : Nat → Nat} (hG : GG D k (fun q : Nat => s.heap.size ≤ q) s s.heap) (hN : NC s) {ad am g : Nat → Nat} {o : Nat} {σ τ : Mem} {n : Int64} {v : Value} {x4 a1 a2 a3 a4 : Int32} (hi1 : vp_in (x4 + 1) L) (hi2 : vp_in (x4 + 2) L) (hi3 : vp_in (x4 + 3) L) (hi4 : vp_in (x4 + 4) L) (ha1 : xs (x4 + 1).toNatClampNeg = a1) (ha2 : xs (x4 + 2).toNatClampNeg = a2) (ha3 : xs (x4 + 3).toNatClampNeg = a3) (ha4 : xs (x4 + 4).toNatClampNeg = a4) (hgk : gk g) {cells slots : Nat} (hcl : cells + 100 ≤ 601024) (hsl : slots + 1000 ≤ 7293034) {H : Heap} {locs : List Loc} {ls : Array Slot} {Q : State → Prop} {nx : Mem → Int64 → Value → (Nat → Nat) → (Nat → Nat) → Mem → Prop} (hP : va_P D vwCl ((W5 k ad σ ++ WO o n v) ++ WM k am g τ) H) (hD : va_D (fun q : Nat => s.heap.size ≤ q) ((W5 k ad σ ++ WO o n v) ++ WM k am g τ)) (hS : va_S (fun q : Nat => s.heap.size ≤ q) s.heap H locs) (hl : lv_has ls 7 [(0, .ref b), (1, .ref (ad 0)), (2, .ref (am 0)), (3, .ref o), (4, .int x4)]) (hp : q_case_8 nx a1 a2 a3 a4 σ n v am g τ) (K : ∀ (σ' : Mem) (n' : Int64) (v' : Value) (am' g' : Nat → Nat) (τ' : Mem) (H' : Heap) (locs' : List Loc) (cells' slots' : Nat) (ls' : Array Slot), gk g' → nx σ' n' v' am' g' τ' → va_P D vwCl ((W5 k ad σ' ++ WO o n' v') ++ WM k am' g' τ') H' → va_D (fun q : Nat => s.heap.size ≤ q) ((W5 k ad σ' ++ WO o n' v') ++ WM k am' g' τ') → va_S (fun q : Nat => s.heap.size ≤ q) s.heap H' locs' → cells' ≤ cells + 100 → slots' ≤ slots + 1000 → lv_has ls' 7 [(0, .ref b), (1, .ref (ad 0)), (2, .ref (am' 0)), (3, .ref o), (4, .int x4)] → W p l e room_1 s m #[Value.ref b] below meth c H' locs' cells' slots' Q (F0 m 1248 ls' [])) : W p l e room_1 s m #[Value.ref b] below meth c H locs cells slots Q (F0 m 616 ls []) := by
  obtain ⟨hx, hb, hr, hml, hown, hts0, hX, hbl, hlocks, hgv⟩ := id C0
  have hts : ∀ w ∈ wLAW, w.before #[Value.ref b] s = true := jLAW hts0
  have hA : ∀ q : Nat, s.heap.size ≤ q → (fun q : Nat => s.heap.size ≤ q) q := fun _ h => h
  have hbA : ¬ (fun q : Nat => s.heap.size ≤ q) b := Nat.not_le.mpr hbl
  generalize hAe : (fun q : Nat => s.heap.size ≤ q) = A at hG hP hD hS hA hbA K
  have hC : Cx p m c code 7 s #[Value.ref b] wLAW RL D k A := ⟨⟨hx, hb, hml, hown, hts⟩, hG, hA⟩
  have hK := hG.1
  have hown : s.vm.findClass RL = some m.cls := hown
  have hin_X6 : ∀ w ∈ u_ws RX6 TX6 2, w ∈ wLAW := fun w h => iUB_X6 w h
  unfold q_case_8 at hp
  refine lv_aload_n hx hb dL_law_616 rfl (lv_at hl 1 rfl) ?_
  refine lv_aload_n hx hb dL_law_617 rfl (lv_at hl 0 rfl) ?_
  refine lv_iload hx hb dL_law_618 (lv_at hl 4 rfl) ?_
  refine lv_iconst (v := 1) hx hb dL_law_620 (by decide) ?_
  refine lv_iadd hx hb dL_law_621 ?_
  refine va_sld hx hb hX hbl hbA hS hi1 dL_law_622 ?_
  rw [ha1]
  refine lv_aload_n hx hb dL_law_623 rfl (lv_at hl 0 rfl) ?_
  refine lv_iload hx hb dL_law_624 (lv_at hl 4 rfl) ?_
  refine lv_iconst (v := 2) hx hb dL_law_626 (by decide) ?_
  refine lv_iadd hx hb dL_law_627 ?_
  refine va_sld hx hb hX hbl hbA hS hi2 dL_law_628 ?_
  rw [ha2]
  refine lv_aload_n hx hb dL_law_629 rfl (lv_at hl 3 rfl) ?_
  refine fw_ciSL (S := Mem × Int64 × Value) (wf := fun u => W5 k ad u.1 ++ WO o u.2.1 u.2.2) (wN := fun u => (W5 k ad u.1 ++ WO o u.2.1 u.2.2) ++ WM k am g τ) (As := [.ref (ad 0), .int a1, .int a2, .ref o]) (rest := []) hC hN (c_L_weight l hflag D k ad o hp) (vx_cwSW 4 hts (gT (va_wsS RL 142 yL_weight wq_L_weight) (mS2 B_133 B_134 B_94 B_38)) rfl rfl rfl (by decide +kernel) ⟨Nat.le_of_ble_eq_true rfl, Nat.le_of_ble_eq_true rfl⟩) rfl hl.1 rfl (Nat.le_of_ble_eq_true rfl) dL_law_630 ⟨by show cells + 1 ≤ 601024; omega, by show slots + 6 ≤ 7293034; omega⟩ (P_left hP) (D_left hD) hS (Jn.left hP hD) (fun k1 u9 H locs hP hD hS hp => ?_)
  obtain ⟨σ2, n3, v4⟩ := u9
  have hP : va_P D vwCl ((W5 k ad σ2 ++ WO o n3 v4) ++ WM k am g τ) H := hP
  have hD : va_D A ((W5 k ad σ2 ++ WO o n3 v4) ++ WM k am g τ) := hD
  refine lv_istore (lv' := [(5, .int k1), (0, .ref b), (1, .ref (ad 0)), (2, .ref (am 0)), (3, .ref o), (4, .int x4)]) hx hb dL_law_633 hl (by decide) rfl (fun ls hl => ?_)
  refine lv_aload_n hx hb dL_law_635 rfl (lv_at hl 3 rfl) ?_
  refine lv_aload_n hx hb dL_law_636 rfl (lv_at hl 1 rfl) ?_
  refine lv_iload hx hb dL_law_637 (lv_at hl 5 rfl) ?_
  refine lv_iconst (v := 1) hx hb dL_law_639 (by decide) ?_
  refine lv_iadd hx hb dL_law_640 ?_
  refine va_sld hx hb hX hbl hbA hS hi1 dL_law_641 ?_
  rw [ha1]
  refine lv_aload_n hx hb dL_law_642 rfl (lv_at hl 1 rfl) ?_
  refine lv_iload hx hb dL_law_643 (lv_at hl 5 rfl) ?_
  refine lv_iconst (v := 2) hx hb dL_law_645 (by decide) ?_
  refine lv_iadd hx hb dL_law_646 ?_
  refine va_sld hx hb hX hbl hbA hS hi2 dL_law_647 ?_
  rw [ha2]
  refine fw_ciV (wf := fun u : Mem => WM k am g u) (wN := fun u : Mem => (W5 k ad σ2 ++ WO o n3 v4) ++ WM k am g u) (As := [.int a1, .int a2]) (rest := []) hC (c_X8_weight l D k am g hgk.1 hp) (cwV 2 hts (gT (wsV RL 145 RX8 yX8_weight wq_X8_weight) (mV2 B_135 B_136 B_137 (iB_A _ A_601) (iB_A _ A_686))) rfl rfl rfl (by decide +kernel) ⟨Nat.le_of_ble_eq_true rfl, Nat.le_of_ble_eq_true rfl⟩) (va_recv hK (P_right hP) (ci := 12) (q0 := 0) rfl rfl) rfl hl.1 rfl (Nat.le_of_ble_eq_true rfl) dL_law_648 ⟨by show cells + 1 + 0 ≤ 601024; omega, by show slots + 6 + 0 ≤ 7293034; omega⟩ (P_right hP) (D_right hD) hS (Jn.right hP hD) (fun r5 τ6 H locs hP hD hS hp => ?_)
  have hP : va_P D vwCl ((W5 k ad σ2 ++ WO o n3 v4) ++ WM k am g τ6) H := hP
  have hD : va_D A ((W5 k ad σ2 ++ WO o n3 v4) ++ WM k am g τ6) := hD
  refine lv_istore (lv' := [(6, .int r5), (5, .int k1), (0, .ref b), (1, .ref (ad 0)), (2, .ref (am 0)), (3, .ref o), (4, .int x4)]) hx hb dL_law_651 hl (by decide) rfl (fun ls hl => ?_)
  refine lv_goto (tgt := 1248) hx hb dL_law_653 (by decide) ?_
  exact K σ2 n3 v4 am g τ6 _ _ _ _ _ hgk hp hP hD hS (by omega) (by omega) (lv_sub hl [2, 3, 4, 5, 6] rfl)
def q_case_9 (nx : Mem → Int64 → Value → (Nat → Nat) → (Nat → Nat) → Mem → Prop) (a1 a2 a3 a4 : Int32) (σ : Mem) (n : Int64) (v : Value) (am g : Nat → Nat) (τ : Mem) : Prop := (q_L_commit (fun (k1 : Int32) (σ2 : Mem) (n3 : Int64) (v4 : Value) => (q_X8_commit am g (fun (r5 : Int32) (am6 g7 : Nat → Nat) (τ8 : Mem) => am6 0 = am 0 ∧ gk g7 ∧ nx σ2 n3 v4 am6 g7 τ8) τ)) n v σ)
set_option maxHeartbeats 4000000 in
set_option maxRecDepth 100000 in
theorem cs_9 {p : Program} {e : Env} {s : State} {m : MethodId} {below : List Frame} {meth : Method} {c : Code} (l : Launch) (hflag : l.stackTraces = false) {b L : Nat} {xs : Nat → Int32} (C0 : lw_At p s m meth c b L xs) {D : va_G} {k : Nat → Nat} (hG : GG D k (fun q : Nat => s.heap.size ≤ q) s s.heap) (hN : NC s) {ad am g : Nat → Nat} {o : Nat} {σ τ : Mem} {n : Int64} {v : Value} {x4 a1 a2 a3 a4 : Int32} (hi1 : vp_in (x4 + 1) L) (hi2 : vp_in (x4 + 2) L) (hi3 : vp_in (x4 + 3) L) (hi4 : vp_in (x4 + 4) L) (ha1 : xs (x4 + 1).toNatClampNeg = a1) (ha2 : xs (x4 + 2).toNatClampNeg = a2) (ha3 : xs (x4 + 3).toNatClampNeg = a3) (ha4 : xs (x4 + 4).toNatClampNeg = a4) (hgk : gk g) {cells slots : Nat} (hcl : cells + 100 ≤ 601024) (hsl : slots + 1000 ≤ 7293034) {H : Heap} {locs : List Loc} {ls : Array Slot} {Q : State → Prop} {nx : Mem → Int64 → Value → (Nat → Nat) → (Nat → Nat) → Mem → Prop} (hP : va_P D vwCl ((W5 k ad σ ++ WO o n v) ++ WM k am g τ) H) (hD : va_D (fun q : Nat => s.heap.size ≤ q) ((W5 k ad σ ++ WO o n v) ++ WM k am g τ)) (hS : va_S (fun q : Nat => s.heap.size ≤ q) s.heap H locs) (hl : lv_has ls 7 [(0, .ref b), (1, .ref (ad 0)), (2, .ref (am 0)), (3, .ref o), (4, .int x4)]) (hp : q_case_9 nx a1 a2 a3 a4 σ n v am g τ) (K : ∀ (σ' : Mem) (n' : Int64) (v' : Value) (am' g' : Nat → Nat) (τ' : Mem) (H' : Heap) (locs' : List Loc) (cells' slots' : Nat) (ls' : Array Slot), gk g' → nx σ' n' v' am' g' τ' → va_P D vwCl ((W5 k ad σ' ++ WO o n' v') ++ WM k am' g' τ') H' → va_D (fun q : Nat => s.heap.size ≤ q) ((W5 k ad σ' ++ WO o n' v') ++ WM k am' g' τ') → va_S (fun q : Nat => s.heap.size ≤ q) s.heap H' locs' → cells' ≤ cells + 100 → slots' ≤ slots + 1000 → lv_has ls' 7 [(0, .ref b), (1, .ref (ad 0)), (2, .ref (am' 0)), (3, .ref o), (4, .int x4)] → W p l e room_1 s m #[Value.ref b] below meth c H' locs' cells' slots' Q (F0 m 1248 ls' [])) : W p l e room_1 s m #[Value.ref b] below meth c H locs cells slots Q (F0 m 656 ls []) := by
  obtain ⟨hx, hb, hr, hml, hown, hts0, hX, hbl, hlocks, hgv⟩ := id C0
  have hts : ∀ w ∈ wLAW, w.before #[Value.ref b] s = true := jLAW hts0
  have hA : ∀ q : Nat, s.heap.size ≤ q → (fun q : Nat => s.heap.size ≤ q) q := fun _ h => h
  have hbA : ¬ (fun q : Nat => s.heap.size ≤ q) b := Nat.not_le.mpr hbl
  generalize hAe : (fun q : Nat => s.heap.size ≤ q) = A at hG hP hD hS hA hbA K
  have hC : Cx p m c code 7 s #[Value.ref b] wLAW RL D k A := ⟨⟨hx, hb, hml, hown, hts⟩, hG, hA⟩
  have hK := hG.1
  have hown : s.vm.findClass RL = some m.cls := hown
  have hin_X6 : ∀ w ∈ u_ws RX6 TX6 2, w ∈ wLAW := fun w h => iUB_X6 w h
  unfold q_case_9 at hp
  refine lv_aload_n hx hb dL_law_656 rfl (lv_at hl 1 rfl) ?_
  refine lv_aload_n hx hb dL_law_657 rfl (lv_at hl 3 rfl) ?_
  refine fw_ciSL (S := Mem × Int64 × Value) (wf := fun u => W5 k ad u.1 ++ WO o u.2.1 u.2.2) (wN := fun u => (W5 k ad u.1 ++ WO o u.2.1 u.2.2) ++ WM k am g τ) (As := [.ref (ad 0), .ref o]) (rest := []) hC hN (c_L_commit l hflag D k ad o hp) (vx_cwSW 2 hts (gT (va_wsS RL 146 yL_commit wq_L_commit) (mS2 B_138 B_139 B_94 B_42)) rfl rfl rfl (by decide +kernel) ⟨Nat.le_of_ble_eq_true rfl, Nat.le_of_ble_eq_true rfl⟩) rfl hl.1 rfl (Nat.le_of_ble_eq_true rfl) dL_law_658 ⟨by show cells + 1 ≤ 601024; omega, by show slots + 6 ≤ 7293034; omega⟩ (P_left hP) (D_left hD) hS (Jn.left hP hD) (fun k1 u9 H locs hP hD hS hp => ?_)
  obtain ⟨σ2, n3, v4⟩ := u9
  have hP : va_P D vwCl ((W5 k ad σ2 ++ WO o n3 v4) ++ WM k am g τ) H := hP
  have hD : va_D A ((W5 k ad σ2 ++ WO o n3 v4) ++ WM k am g τ) := hD
  refine lv_istore (lv' := [(5, .int k1), (0, .ref b), (1, .ref (ad 0)), (2, .ref (am 0)), (3, .ref o), (4, .int x4)]) hx hb dL_law_661 hl (by decide) rfl (fun ls hl => ?_)
  refine lv_aload_n hx hb dL_law_663 rfl (lv_at hl 3 rfl) ?_
  refine fw_ciV (S := (Nat → Nat) × (Nat → Nat) × Mem) (wf := fun u => WM k u.1 u.2.1 u.2.2) (wN := fun u => (W5 k ad σ2 ++ WO o n3 v4) ++ WM k u.1 u.2.1 u.2.2) (As := []) (rest := []) hC (c_X8_commit l D k am g hgk hp) (cwV 0 hts (gT (wsV RL 149 RX8 yX8_commit wq_X8_commit) (mV2 B_140 B_141 B_142 (iB_A _ A_601) (iB_A _ A_781))) rfl rfl rfl (by decide +kernel) ⟨Nat.le_of_ble_eq_true rfl, Nat.le_of_ble_eq_true rfl⟩) (va_recv hK (P_right hP) (ci := 12) (q0 := 0) rfl rfl) rfl hl.1 rfl (Nat.le_of_ble_eq_true rfl) dL_law_664 ⟨by show cells + 1 + 2 ≤ 601024; omega, by show slots + 6 + 38 ≤ 7293034; omega⟩ (P_right hP) (D_right hD) hS (Jn.right hP hD) (fun r5 u9 H locs hP hD hS hp => ?_)
  obtain ⟨am6, g7, τ8⟩ := u9
  obtain ⟨eam6, hgg7, hp⟩ := hp
  have hP : va_P D vwCl ((W5 k ad σ2 ++ WO o n3 v4) ++ WM k am6 g7 τ8) H := hP
  have hD : va_D A ((W5 k ad σ2 ++ WO o n3 v4) ++ WM k am6 g7 τ8) := hD
  have eam6 : am6 0 = am 0 := eam6
  rw [← eam6] at hl
  refine lv_istore (lv' := [(6, .int r5), (5, .int k1), (0, .ref b), (1, .ref (ad 0)), (2, .ref (am6 0)), (3, .ref o), (4, .int x4)]) hx hb dL_law_667 hl (by decide) rfl (fun ls hl => ?_)
  refine lv_goto (tgt := 1248) hx hb dL_law_669 (by decide) ?_
  exact K σ2 n3 v4 am6 g7 τ8 _ _ _ _ _ hgg7 hp hP hD hS (by omega) (by omega) (lv_sub hl [2, 3, 4, 5, 6] rfl)
def q_case_10 (nx : Mem → Int64 → Value → (Nat → Nat) → (Nat → Nat) → Mem → Prop) (a1 a2 a3 a4 : Int32) (σ : Mem) (n : Int64) (v : Value) (am g : Nat → Nat) (τ : Mem) : Prop := (q_L_wave (fun (k1 : Int32) (σ2 : Mem) (n3 : Int64) (v4 : Value) => (q_X8_wave (g 0) (g 2) (fun (r5 : Int32) (τ6 : Mem) => nx σ2 n3 v4 am g τ6) a1 a2 τ)) a1 a2 n v σ)
set_option maxHeartbeats 4000000 in
set_option maxRecDepth 100000 in
theorem cs_10 {p : Program} {e : Env} {s : State} {m : MethodId} {below : List Frame} {meth : Method} {c : Code} (l : Launch) (hflag : l.stackTraces = false) {b L : Nat} {xs : Nat → Int32} (C0 : lw_At p s m meth c b L xs) {D : va_G} {k : Nat → Nat} (hG : GG D k (fun q : Nat => s.heap.size ≤ q) s s.heap) (hN : NC s) {ad am g : Nat → Nat} {o : Nat} {σ τ : Mem} {n : Int64} {v : Value} {x4 a1 a2 a3 a4 : Int32} (hi1 : vp_in (x4 + 1) L) (hi2 : vp_in (x4 + 2) L) (hi3 : vp_in (x4 + 3) L) (hi4 : vp_in (x4 + 4) L) (ha1 : xs (x4 + 1).toNatClampNeg = a1) (ha2 : xs (x4 + 2).toNatClampNeg = a2) (ha3 : xs (x4 + 3).toNatClampNeg = a3) (ha4 : xs (x4 + 4).toNatClampNeg = a4) (hgk : gk g) {cells slots : Nat} (hcl : cells + 100 ≤ 601024) (hsl : slots + 1000 ≤ 7293034) {H : Heap} {locs : List Loc} {ls : Array Slot} {Q : State → Prop} {nx : Mem → Int64 → Value → (Nat → Nat) → (Nat → Nat) → Mem → Prop} (hP : va_P D vwCl ((W5 k ad σ ++ WO o n v) ++ WM k am g τ) H) (hD : va_D (fun q : Nat => s.heap.size ≤ q) ((W5 k ad σ ++ WO o n v) ++ WM k am g τ)) (hS : va_S (fun q : Nat => s.heap.size ≤ q) s.heap H locs) (hl : lv_has ls 7 [(0, .ref b), (1, .ref (ad 0)), (2, .ref (am 0)), (3, .ref o), (4, .int x4)]) (hp : q_case_10 nx a1 a2 a3 a4 σ n v am g τ) (K : ∀ (σ' : Mem) (n' : Int64) (v' : Value) (am' g' : Nat → Nat) (τ' : Mem) (H' : Heap) (locs' : List Loc) (cells' slots' : Nat) (ls' : Array Slot), gk g' → nx σ' n' v' am' g' τ' → va_P D vwCl ((W5 k ad σ' ++ WO o n' v') ++ WM k am' g' τ') H' → va_D (fun q : Nat => s.heap.size ≤ q) ((W5 k ad σ' ++ WO o n' v') ++ WM k am' g' τ') → va_S (fun q : Nat => s.heap.size ≤ q) s.heap H' locs' → cells' ≤ cells + 100 → slots' ≤ slots + 1000 → lv_has ls' 7 [(0, .ref b), (1, .ref (ad 0)), (2, .ref (am' 0)), (3, .ref o), (4, .int x4)] → W p l e room_1 s m #[Value.ref b] below meth c H' locs' cells' slots' Q (F0 m 1248 ls' [])) : W p l e room_1 s m #[Value.ref b] below meth c H locs cells slots Q (F0 m 672 ls []) := by
  obtain ⟨hx, hb, hr, hml, hown, hts0, hX, hbl, hlocks, hgv⟩ := id C0
  have hts : ∀ w ∈ wLAW, w.before #[Value.ref b] s = true := jLAW hts0
  have hA : ∀ q : Nat, s.heap.size ≤ q → (fun q : Nat => s.heap.size ≤ q) q := fun _ h => h
  have hbA : ¬ (fun q : Nat => s.heap.size ≤ q) b := Nat.not_le.mpr hbl
  generalize hAe : (fun q : Nat => s.heap.size ≤ q) = A at hG hP hD hS hA hbA K
  have hC : Cx p m c code 7 s #[Value.ref b] wLAW RL D k A := ⟨⟨hx, hb, hml, hown, hts⟩, hG, hA⟩
  have hK := hG.1
  have hown : s.vm.findClass RL = some m.cls := hown
  have hin_X6 : ∀ w ∈ u_ws RX6 TX6 2, w ∈ wLAW := fun w h => iUB_X6 w h
  unfold q_case_10 at hp
  refine lv_aload_n hx hb dL_law_672 rfl (lv_at hl 1 rfl) ?_
  refine lv_aload_n hx hb dL_law_673 rfl (lv_at hl 0 rfl) ?_
  refine lv_iload hx hb dL_law_674 (lv_at hl 4 rfl) ?_
  refine lv_iconst (v := 1) hx hb dL_law_676 (by decide) ?_
  refine lv_iadd hx hb dL_law_677 ?_
  refine va_sld hx hb hX hbl hbA hS hi1 dL_law_678 ?_
  rw [ha1]
  refine lv_aload_n hx hb dL_law_679 rfl (lv_at hl 0 rfl) ?_
  refine lv_iload hx hb dL_law_680 (lv_at hl 4 rfl) ?_
  refine lv_iconst (v := 2) hx hb dL_law_682 (by decide) ?_
  refine lv_iadd hx hb dL_law_683 ?_
  refine va_sld hx hb hX hbl hbA hS hi2 dL_law_684 ?_
  rw [ha2]
  refine lv_aload_n hx hb dL_law_685 rfl (lv_at hl 3 rfl) ?_
  refine fw_ciSL (S := Mem × Int64 × Value) (wf := fun u => W5 k ad u.1 ++ WO o u.2.1 u.2.2) (wN := fun u => (W5 k ad u.1 ++ WO o u.2.1 u.2.2) ++ WM k am g τ) (As := [.ref (ad 0), .int a1, .int a2, .ref o]) (rest := []) hC hN (c_L_wave l hflag D k ad o hp) (vx_cwSW 4 hts (gT (va_wsS RL 150 yL_wave wq_L_wave) (mS2 B_143 B_144 B_94 B_46)) rfl rfl rfl (by decide +kernel) ⟨Nat.le_of_ble_eq_true rfl, Nat.le_of_ble_eq_true rfl⟩) rfl hl.1 rfl (Nat.le_of_ble_eq_true rfl) dL_law_686 ⟨by show cells + 1 ≤ 601024; omega, by show slots + 6 ≤ 7293034; omega⟩ (P_left hP) (D_left hD) hS (Jn.left hP hD) (fun k1 u9 H locs hP hD hS hp => ?_)
  obtain ⟨σ2, n3, v4⟩ := u9
  have hP : va_P D vwCl ((W5 k ad σ2 ++ WO o n3 v4) ++ WM k am g τ) H := hP
  have hD : va_D A ((W5 k ad σ2 ++ WO o n3 v4) ++ WM k am g τ) := hD
  refine lv_istore (lv' := [(5, .int k1), (0, .ref b), (1, .ref (ad 0)), (2, .ref (am 0)), (3, .ref o), (4, .int x4)]) hx hb dL_law_689 hl (by decide) rfl (fun ls hl => ?_)
  refine lv_aload_n hx hb dL_law_691 rfl (lv_at hl 3 rfl) ?_
  refine lv_aload_n hx hb dL_law_692 rfl (lv_at hl 1 rfl) ?_
  refine lv_iload hx hb dL_law_693 (lv_at hl 5 rfl) ?_
  refine lv_iconst (v := 1) hx hb dL_law_695 (by decide) ?_
  refine lv_iadd hx hb dL_law_696 ?_
  refine va_sld hx hb hX hbl hbA hS hi1 dL_law_697 ?_
  rw [ha1]
  refine lv_aload_n hx hb dL_law_698 rfl (lv_at hl 1 rfl) ?_
  refine lv_iload hx hb dL_law_699 (lv_at hl 5 rfl) ?_
  refine lv_iconst (v := 2) hx hb dL_law_701 (by decide) ?_
  refine lv_iadd hx hb dL_law_702 ?_
  refine va_sld hx hb hX hbl hbA hS hi2 dL_law_703 ?_
  rw [ha2]
  refine fw_ciV (wf := fun u : Mem => WM k am g u) (wN := fun u : Mem => (W5 k ad σ2 ++ WO o n3 v4) ++ WM k am g u) (As := [.int a1, .int a2]) (rest := []) hC (c_X8_wave l D k am g hgk.1 hp) (cwV 2 hts (gT (wsV RL 152 RX8 yX8_wave wq_X8_wave) (mV2 B_145 B_146 B_147 (iB_A _ A_601) (iB_A _ A_791))) rfl rfl rfl (by decide +kernel) ⟨Nat.le_of_ble_eq_true rfl, Nat.le_of_ble_eq_true rfl⟩) (va_recv hK (P_right hP) (ci := 12) (q0 := 0) rfl rfl) rfl hl.1 rfl (Nat.le_of_ble_eq_true rfl) dL_law_704 ⟨by show cells + 1 + 0 ≤ 601024; omega, by show slots + 6 + 0 ≤ 7293034; omega⟩ (P_right hP) (D_right hD) hS (Jn.right hP hD) (fun r5 τ6 H locs hP hD hS hp => ?_)
  have hP : va_P D vwCl ((W5 k ad σ2 ++ WO o n3 v4) ++ WM k am g τ6) H := hP
  have hD : va_D A ((W5 k ad σ2 ++ WO o n3 v4) ++ WM k am g τ6) := hD
  refine lv_istore (lv' := [(6, .int r5), (5, .int k1), (0, .ref b), (1, .ref (ad 0)), (2, .ref (am 0)), (3, .ref o), (4, .int x4)]) hx hb dL_law_707 hl (by decide) rfl (fun ls hl => ?_)
  refine lv_goto (tgt := 1248) hx hb dL_law_709 (by decide) ?_
  exact K σ2 n3 v4 am g τ6 _ _ _ _ _ hgk hp hP hD hS (by omega) (by omega) (lv_sub hl [2, 3, 4, 5, 6] rfl)
def q_case_11 (nx : Mem → Int64 → Value → (Nat → Nat) → (Nat → Nat) → Mem → Prop) (a1 a2 a3 a4 : Int32) (σ : Mem) (n : Int64) (v : Value) (am g : Nat → Nat) (τ : Mem) : Prop := (q_L_patch (fun (k1 : Int32) (σ2 : Mem) (n3 : Int64) (v4 : Value) => (q_X8_patch (g 0) (g 2) (fun (r5 : Int32) (τ6 : Mem) => nx σ2 n3 v4 am g τ6) a1 a2 a3 τ)) a1 a2 a3 n v σ)
set_option maxHeartbeats 4000000 in
set_option maxRecDepth 100000 in
theorem cs_11 {p : Program} {e : Env} {s : State} {m : MethodId} {below : List Frame} {meth : Method} {c : Code} (l : Launch) (hflag : l.stackTraces = false) {b L : Nat} {xs : Nat → Int32} (C0 : lw_At p s m meth c b L xs) {D : va_G} {k : Nat → Nat} (hG : GG D k (fun q : Nat => s.heap.size ≤ q) s s.heap) (hN : NC s) {ad am g : Nat → Nat} {o : Nat} {σ τ : Mem} {n : Int64} {v : Value} {x4 a1 a2 a3 a4 : Int32} (hi1 : vp_in (x4 + 1) L) (hi2 : vp_in (x4 + 2) L) (hi3 : vp_in (x4 + 3) L) (hi4 : vp_in (x4 + 4) L) (ha1 : xs (x4 + 1).toNatClampNeg = a1) (ha2 : xs (x4 + 2).toNatClampNeg = a2) (ha3 : xs (x4 + 3).toNatClampNeg = a3) (ha4 : xs (x4 + 4).toNatClampNeg = a4) (hgk : gk g) {cells slots : Nat} (hcl : cells + 100 ≤ 601024) (hsl : slots + 1000 ≤ 7293034) {H : Heap} {locs : List Loc} {ls : Array Slot} {Q : State → Prop} {nx : Mem → Int64 → Value → (Nat → Nat) → (Nat → Nat) → Mem → Prop} (hP : va_P D vwCl ((W5 k ad σ ++ WO o n v) ++ WM k am g τ) H) (hD : va_D (fun q : Nat => s.heap.size ≤ q) ((W5 k ad σ ++ WO o n v) ++ WM k am g τ)) (hS : va_S (fun q : Nat => s.heap.size ≤ q) s.heap H locs) (hl : lv_has ls 7 [(0, .ref b), (1, .ref (ad 0)), (2, .ref (am 0)), (3, .ref o), (4, .int x4)]) (hp : q_case_11 nx a1 a2 a3 a4 σ n v am g τ) (K : ∀ (σ' : Mem) (n' : Int64) (v' : Value) (am' g' : Nat → Nat) (τ' : Mem) (H' : Heap) (locs' : List Loc) (cells' slots' : Nat) (ls' : Array Slot), gk g' → nx σ' n' v' am' g' τ' → va_P D vwCl ((W5 k ad σ' ++ WO o n' v') ++ WM k am' g' τ') H' → va_D (fun q : Nat => s.heap.size ≤ q) ((W5 k ad σ' ++ WO o n' v') ++ WM k am' g' τ') → va_S (fun q : Nat => s.heap.size ≤ q) s.heap H' locs' → cells' ≤ cells + 100 → slots' ≤ slots + 1000 → lv_has ls' 7 [(0, .ref b), (1, .ref (ad 0)), (2, .ref (am' 0)), (3, .ref o), (4, .int x4)] → W p l e room_1 s m #[Value.ref b] below meth c H' locs' cells' slots' Q (F0 m 1248 ls' [])) : W p l e room_1 s m #[Value.ref b] below meth c H locs cells slots Q (F0 m 712 ls []) := by
  obtain ⟨hx, hb, hr, hml, hown, hts0, hX, hbl, hlocks, hgv⟩ := id C0
  have hts : ∀ w ∈ wLAW, w.before #[Value.ref b] s = true := jLAW hts0
  have hA : ∀ q : Nat, s.heap.size ≤ q → (fun q : Nat => s.heap.size ≤ q) q := fun _ h => h
  have hbA : ¬ (fun q : Nat => s.heap.size ≤ q) b := Nat.not_le.mpr hbl
  generalize hAe : (fun q : Nat => s.heap.size ≤ q) = A at hG hP hD hS hA hbA K
  have hC : Cx p m c code 7 s #[Value.ref b] wLAW RL D k A := ⟨⟨hx, hb, hml, hown, hts⟩, hG, hA⟩
  have hK := hG.1
  have hown : s.vm.findClass RL = some m.cls := hown
  have hin_X6 : ∀ w ∈ u_ws RX6 TX6 2, w ∈ wLAW := fun w h => iUB_X6 w h
  unfold q_case_11 at hp
  refine lv_aload_n hx hb dL_law_712 rfl (lv_at hl 1 rfl) ?_
  refine lv_aload_n hx hb dL_law_713 rfl (lv_at hl 0 rfl) ?_
  refine lv_iload hx hb dL_law_714 (lv_at hl 4 rfl) ?_
  refine lv_iconst (v := 1) hx hb dL_law_716 (by decide) ?_
  refine lv_iadd hx hb dL_law_717 ?_
  refine va_sld hx hb hX hbl hbA hS hi1 dL_law_718 ?_
  rw [ha1]
  refine lv_aload_n hx hb dL_law_719 rfl (lv_at hl 0 rfl) ?_
  refine lv_iload hx hb dL_law_720 (lv_at hl 4 rfl) ?_
  refine lv_iconst (v := 2) hx hb dL_law_722 (by decide) ?_
  refine lv_iadd hx hb dL_law_723 ?_
  refine va_sld hx hb hX hbl hbA hS hi2 dL_law_724 ?_
  rw [ha2]
  refine lv_aload_n hx hb dL_law_725 rfl (lv_at hl 0 rfl) ?_
  refine lv_iload hx hb dL_law_726 (lv_at hl 4 rfl) ?_
  refine lv_iconst (v := 3) hx hb dL_law_728 (by decide) ?_
  refine lv_iadd hx hb dL_law_729 ?_
  refine va_sld hx hb hX hbl hbA hS hi3 dL_law_730 ?_
  rw [ha3]
  refine lv_aload_n hx hb dL_law_731 rfl (lv_at hl 3 rfl) ?_
  refine fw_ciSL (S := Mem × Int64 × Value) (wf := fun u => W5 k ad u.1 ++ WO o u.2.1 u.2.2) (wN := fun u => (W5 k ad u.1 ++ WO o u.2.1 u.2.2) ++ WM k am g τ) (As := [.ref (ad 0), .int a1, .int a2, .int a3, .ref o]) (rest := []) hC hN (c_L_patch l hflag D k ad o hp) (vx_cwSW 5 hts (gT (va_wsS RL 153 yL_patch wq_L_patch) (mS2 B_148 B_149 B_94 B_50)) rfl rfl rfl (by decide +kernel) ⟨Nat.le_of_ble_eq_true rfl, Nat.le_of_ble_eq_true rfl⟩) rfl hl.1 rfl (Nat.le_of_ble_eq_true rfl) dL_law_732 ⟨by show cells + 1 ≤ 601024; omega, by show slots + 6 ≤ 7293034; omega⟩ (P_left hP) (D_left hD) hS (Jn.left hP hD) (fun k1 u9 H locs hP hD hS hp => ?_)
  obtain ⟨σ2, n3, v4⟩ := u9
  have hP : va_P D vwCl ((W5 k ad σ2 ++ WO o n3 v4) ++ WM k am g τ) H := hP
  have hD : va_D A ((W5 k ad σ2 ++ WO o n3 v4) ++ WM k am g τ) := hD
  refine lv_istore (lv' := [(5, .int k1), (0, .ref b), (1, .ref (ad 0)), (2, .ref (am 0)), (3, .ref o), (4, .int x4)]) hx hb dL_law_735 hl (by decide) rfl (fun ls hl => ?_)
  refine lv_aload_n hx hb dL_law_737 rfl (lv_at hl 3 rfl) ?_
  refine lv_aload_n hx hb dL_law_738 rfl (lv_at hl 1 rfl) ?_
  refine lv_iload hx hb dL_law_739 (lv_at hl 5 rfl) ?_
  refine lv_iconst (v := 1) hx hb dL_law_741 (by decide) ?_
  refine lv_iadd hx hb dL_law_742 ?_
  refine va_sld hx hb hX hbl hbA hS hi1 dL_law_743 ?_
  rw [ha1]
  refine lv_aload_n hx hb dL_law_744 rfl (lv_at hl 1 rfl) ?_
  refine lv_iload hx hb dL_law_745 (lv_at hl 5 rfl) ?_
  refine lv_iconst (v := 2) hx hb dL_law_747 (by decide) ?_
  refine lv_iadd hx hb dL_law_748 ?_
  refine va_sld hx hb hX hbl hbA hS hi2 dL_law_749 ?_
  rw [ha2]
  refine lv_aload_n hx hb dL_law_750 rfl (lv_at hl 1 rfl) ?_
  refine lv_iload hx hb dL_law_751 (lv_at hl 5 rfl) ?_
  refine lv_iconst (v := 3) hx hb dL_law_753 (by decide) ?_
  refine lv_iadd hx hb dL_law_754 ?_
  refine va_sld hx hb hX hbl hbA hS hi3 dL_law_755 ?_
  rw [ha3]
  refine fw_ciV (wf := fun u : Mem => WM k am g u) (wN := fun u : Mem => (W5 k ad σ2 ++ WO o n3 v4) ++ WM k am g u) (As := [.int a1, .int a2, .int a3]) (rest := []) hC (c_X8_patch l D k am g hgk.1 hp) (cwV 3 hts (gT (wsV RL 155 RX8 yX8_patch wq_X8_patch) (mV2 B_150 B_151 B_152 (iB_A _ A_601) (iB_A _ A_792))) rfl rfl rfl (by decide +kernel) ⟨Nat.le_of_ble_eq_true rfl, Nat.le_of_ble_eq_true rfl⟩) (va_recv hK (P_right hP) (ci := 12) (q0 := 0) rfl rfl) rfl hl.1 rfl (Nat.le_of_ble_eq_true rfl) dL_law_756 ⟨by show cells + 1 + 0 ≤ 601024; omega, by show slots + 6 + 0 ≤ 7293034; omega⟩ (P_right hP) (D_right hD) hS (Jn.right hP hD) (fun r5 τ6 H locs hP hD hS hp => ?_)
  have hP : va_P D vwCl ((W5 k ad σ2 ++ WO o n3 v4) ++ WM k am g τ6) H := hP
  have hD : va_D A ((W5 k ad σ2 ++ WO o n3 v4) ++ WM k am g τ6) := hD
  refine lv_istore (lv' := [(6, .int r5), (5, .int k1), (0, .ref b), (1, .ref (ad 0)), (2, .ref (am 0)), (3, .ref o), (4, .int x4)]) hx hb dL_law_759 hl (by decide) rfl (fun ls hl => ?_)
  refine lv_goto (tgt := 1248) hx hb dL_law_761 (by decide) ?_
  exact K σ2 n3 v4 am g τ6 _ _ _ _ _ hgk hp hP hD hS (by omega) (by omega) (lv_sub hl [2, 3, 4, 5, 6] rfl)
def q_case_12 (nx : Mem → Int64 → Value → (Nat → Nat) → (Nat → Nat) → Mem → Prop) (a1 a2 a3 a4 : Int32) (σ : Mem) (n : Int64) (v : Value) (am g : Nat → Nat) (τ : Mem) : Prop := (q_L_absorb (fun (k1 : Int32) (σ2 : Mem) (n3 : Int64) (v4 : Value) => (q_X8_absorb am g (fun (r5 : Int32) (am6 g7 : Nat → Nat) (τ8 : Mem) => am6 0 = am 0 ∧ gk g7 ∧ nx σ2 n3 v4 am6 g7 τ8) a1 a2 τ)) a1 a2 n v σ)
set_option maxHeartbeats 4000000 in
set_option maxRecDepth 100000 in
theorem cs_12 {p : Program} {e : Env} {s : State} {m : MethodId} {below : List Frame} {meth : Method} {c : Code} (l : Launch) (hflag : l.stackTraces = false) {b L : Nat} {xs : Nat → Int32} (C0 : lw_At p s m meth c b L xs) {D : va_G} {k : Nat → Nat} (hG : GG D k (fun q : Nat => s.heap.size ≤ q) s s.heap) (hN : NC s) {ad am g : Nat → Nat} {o : Nat} {σ τ : Mem} {n : Int64} {v : Value} {x4 a1 a2 a3 a4 : Int32} (hi1 : vp_in (x4 + 1) L) (hi2 : vp_in (x4 + 2) L) (hi3 : vp_in (x4 + 3) L) (hi4 : vp_in (x4 + 4) L) (ha1 : xs (x4 + 1).toNatClampNeg = a1) (ha2 : xs (x4 + 2).toNatClampNeg = a2) (ha3 : xs (x4 + 3).toNatClampNeg = a3) (ha4 : xs (x4 + 4).toNatClampNeg = a4) (hgk : gk g) {cells slots : Nat} (hcl : cells + 100 ≤ 601024) (hsl : slots + 1000 ≤ 7293034) {H : Heap} {locs : List Loc} {ls : Array Slot} {Q : State → Prop} {nx : Mem → Int64 → Value → (Nat → Nat) → (Nat → Nat) → Mem → Prop} (hP : va_P D vwCl ((W5 k ad σ ++ WO o n v) ++ WM k am g τ) H) (hD : va_D (fun q : Nat => s.heap.size ≤ q) ((W5 k ad σ ++ WO o n v) ++ WM k am g τ)) (hS : va_S (fun q : Nat => s.heap.size ≤ q) s.heap H locs) (hl : lv_has ls 7 [(0, .ref b), (1, .ref (ad 0)), (2, .ref (am 0)), (3, .ref o), (4, .int x4)]) (hp : q_case_12 nx a1 a2 a3 a4 σ n v am g τ) (K : ∀ (σ' : Mem) (n' : Int64) (v' : Value) (am' g' : Nat → Nat) (τ' : Mem) (H' : Heap) (locs' : List Loc) (cells' slots' : Nat) (ls' : Array Slot), gk g' → nx σ' n' v' am' g' τ' → va_P D vwCl ((W5 k ad σ' ++ WO o n' v') ++ WM k am' g' τ') H' → va_D (fun q : Nat => s.heap.size ≤ q) ((W5 k ad σ' ++ WO o n' v') ++ WM k am' g' τ') → va_S (fun q : Nat => s.heap.size ≤ q) s.heap H' locs' → cells' ≤ cells + 100 → slots' ≤ slots + 1000 → lv_has ls' 7 [(0, .ref b), (1, .ref (ad 0)), (2, .ref (am' 0)), (3, .ref o), (4, .int x4)] → W p l e room_1 s m #[Value.ref b] below meth c H' locs' cells' slots' Q (F0 m 1248 ls' [])) : W p l e room_1 s m #[Value.ref b] below meth c H locs cells slots Q (F0 m 764 ls []) := by
  obtain ⟨hx, hb, hr, hml, hown, hts0, hX, hbl, hlocks, hgv⟩ := id C0
  have hts : ∀ w ∈ wLAW, w.before #[Value.ref b] s = true := jLAW hts0
  have hA : ∀ q : Nat, s.heap.size ≤ q → (fun q : Nat => s.heap.size ≤ q) q := fun _ h => h
  have hbA : ¬ (fun q : Nat => s.heap.size ≤ q) b := Nat.not_le.mpr hbl
  generalize hAe : (fun q : Nat => s.heap.size ≤ q) = A at hG hP hD hS hA hbA K
  have hC : Cx p m c code 7 s #[Value.ref b] wLAW RL D k A := ⟨⟨hx, hb, hml, hown, hts⟩, hG, hA⟩
  have hK := hG.1
  have hown : s.vm.findClass RL = some m.cls := hown
  have hin_X6 : ∀ w ∈ u_ws RX6 TX6 2, w ∈ wLAW := fun w h => iUB_X6 w h
  unfold q_case_12 at hp
  refine lv_aload_n hx hb dL_law_764 rfl (lv_at hl 1 rfl) ?_
  refine lv_aload_n hx hb dL_law_765 rfl (lv_at hl 0 rfl) ?_
  refine lv_iload hx hb dL_law_766 (lv_at hl 4 rfl) ?_
  refine lv_iconst (v := 1) hx hb dL_law_768 (by decide) ?_
  refine lv_iadd hx hb dL_law_769 ?_
  refine va_sld hx hb hX hbl hbA hS hi1 dL_law_770 ?_
  rw [ha1]
  refine lv_aload_n hx hb dL_law_771 rfl (lv_at hl 0 rfl) ?_
  refine lv_iload hx hb dL_law_772 (lv_at hl 4 rfl) ?_
  refine lv_iconst (v := 2) hx hb dL_law_774 (by decide) ?_
  refine lv_iadd hx hb dL_law_775 ?_
  refine va_sld hx hb hX hbl hbA hS hi2 dL_law_776 ?_
  rw [ha2]
  refine lv_aload_n hx hb dL_law_777 rfl (lv_at hl 3 rfl) ?_
  refine fw_ciSL (S := Mem × Int64 × Value) (wf := fun u => W5 k ad u.1 ++ WO o u.2.1 u.2.2) (wN := fun u => (W5 k ad u.1 ++ WO o u.2.1 u.2.2) ++ WM k am g τ) (As := [.ref (ad 0), .int a1, .int a2, .ref o]) (rest := []) hC hN (c_L_absorb l hflag D k ad o hp) (vx_cwSW 4 hts (gT (va_wsS RL 156 yL_absorb wq_L_absorb) (mS2 B_153 B_154 B_94 B_54)) rfl rfl rfl (by decide +kernel) ⟨Nat.le_of_ble_eq_true rfl, Nat.le_of_ble_eq_true rfl⟩) rfl hl.1 rfl (Nat.le_of_ble_eq_true rfl) dL_law_778 ⟨by show cells + 1 ≤ 601024; omega, by show slots + 6 ≤ 7293034; omega⟩ (P_left hP) (D_left hD) hS (Jn.left hP hD) (fun k1 u9 H locs hP hD hS hp => ?_)
  obtain ⟨σ2, n3, v4⟩ := u9
  have hP : va_P D vwCl ((W5 k ad σ2 ++ WO o n3 v4) ++ WM k am g τ) H := hP
  have hD : va_D A ((W5 k ad σ2 ++ WO o n3 v4) ++ WM k am g τ) := hD
  refine lv_istore (lv' := [(5, .int k1), (0, .ref b), (1, .ref (ad 0)), (2, .ref (am 0)), (3, .ref o), (4, .int x4)]) hx hb dL_law_781 hl (by decide) rfl (fun ls hl => ?_)
  refine lv_aload_n hx hb dL_law_783 rfl (lv_at hl 3 rfl) ?_
  refine lv_aload_n hx hb dL_law_784 rfl (lv_at hl 1 rfl) ?_
  refine lv_iload hx hb dL_law_785 (lv_at hl 5 rfl) ?_
  refine lv_iconst (v := 1) hx hb dL_law_787 (by decide) ?_
  refine lv_iadd hx hb dL_law_788 ?_
  refine va_sld hx hb hX hbl hbA hS hi1 dL_law_789 ?_
  rw [ha1]
  refine lv_aload_n hx hb dL_law_790 rfl (lv_at hl 1 rfl) ?_
  refine lv_iload hx hb dL_law_791 (lv_at hl 5 rfl) ?_
  refine lv_iconst (v := 2) hx hb dL_law_793 (by decide) ?_
  refine lv_iadd hx hb dL_law_794 ?_
  refine va_sld hx hb hX hbl hbA hS hi2 dL_law_795 ?_
  rw [ha2]
  refine fw_ciV (S := (Nat → Nat) × (Nat → Nat) × Mem) (wf := fun u => WM k u.1 u.2.1 u.2.2) (wN := fun u => (W5 k ad σ2 ++ WO o n3 v4) ++ WM k u.1 u.2.1 u.2.2) (As := [.int a1, .int a2]) (rest := []) hC (c_X8_absorb l D k am g hgk hp) (cwV 2 hts (gT (wsV RL 158 RX8 yX8_absorb wq_X8_absorb) (mV2 B_155 B_156 B_157 (iB_A _ A_601) (iB_A _ A_795))) rfl rfl rfl (by decide +kernel) ⟨Nat.le_of_ble_eq_true rfl, Nat.le_of_ble_eq_true rfl⟩) (va_recv hK (P_right hP) (ci := 12) (q0 := 0) rfl rfl) rfl hl.1 rfl (Nat.le_of_ble_eq_true rfl) dL_law_796 ⟨by show cells + 1 + 2 ≤ 601024; omega, by show slots + 6 + 40 ≤ 7293034; omega⟩ (P_right hP) (D_right hD) hS (Jn.right hP hD) (fun r5 u9 H locs hP hD hS hp => ?_)
  obtain ⟨am6, g7, τ8⟩ := u9
  obtain ⟨eam6, hgg7, hp⟩ := hp
  have hP : va_P D vwCl ((W5 k ad σ2 ++ WO o n3 v4) ++ WM k am6 g7 τ8) H := hP
  have hD : va_D A ((W5 k ad σ2 ++ WO o n3 v4) ++ WM k am6 g7 τ8) := hD
  have eam6 : am6 0 = am 0 := eam6
  rw [← eam6] at hl
  refine lv_istore (lv' := [(6, .int r5), (5, .int k1), (0, .ref b), (1, .ref (ad 0)), (2, .ref (am6 0)), (3, .ref o), (4, .int x4)]) hx hb dL_law_799 hl (by decide) rfl (fun ls hl => ?_)
  refine lv_goto (tgt := 1248) hx hb dL_law_801 (by decide) ?_
  exact K σ2 n3 v4 am6 g7 τ8 _ _ _ _ _ hgg7 hp hP hD hS (by omega) (by omega) (lv_sub hl [2, 3, 4, 5, 6] rfl)
def q_case_13 (nx : Mem → Int64 → Value → (Nat → Nat) → (Nat → Nat) → Mem → Prop) (a1 a2 a3 a4 : Int32) (σ : Mem) (n : Int64) (v : Value) (am g : Nat → Nat) (τ : Mem) : Prop := (q_X5_knock (fun (r1 : Int32) (σ2 : Mem) => (q_X8_knock (g 0) (g 2) (fun (r3 : Int32) (τ4 : Mem) => nx σ2 n v am g τ4) τ)) σ)
set_option maxHeartbeats 4000000 in
set_option maxRecDepth 100000 in
theorem cs_13 {p : Program} {e : Env} {s : State} {m : MethodId} {below : List Frame} {meth : Method} {c : Code} (l : Launch) (hflag : l.stackTraces = false) {b L : Nat} {xs : Nat → Int32} (C0 : lw_At p s m meth c b L xs) {D : va_G} {k : Nat → Nat} (hG : GG D k (fun q : Nat => s.heap.size ≤ q) s s.heap) (hN : NC s) {ad am g : Nat → Nat} {o : Nat} {σ τ : Mem} {n : Int64} {v : Value} {x4 a1 a2 a3 a4 : Int32} (hi1 : vp_in (x4 + 1) L) (hi2 : vp_in (x4 + 2) L) (hi3 : vp_in (x4 + 3) L) (hi4 : vp_in (x4 + 4) L) (ha1 : xs (x4 + 1).toNatClampNeg = a1) (ha2 : xs (x4 + 2).toNatClampNeg = a2) (ha3 : xs (x4 + 3).toNatClampNeg = a3) (ha4 : xs (x4 + 4).toNatClampNeg = a4) (hgk : gk g) {cells slots : Nat} (hcl : cells + 100 ≤ 601024) (hsl : slots + 1000 ≤ 7293034) {H : Heap} {locs : List Loc} {ls : Array Slot} {Q : State → Prop} {nx : Mem → Int64 → Value → (Nat → Nat) → (Nat → Nat) → Mem → Prop} (hP : va_P D vwCl ((W5 k ad σ ++ WO o n v) ++ WM k am g τ) H) (hD : va_D (fun q : Nat => s.heap.size ≤ q) ((W5 k ad σ ++ WO o n v) ++ WM k am g τ)) (hS : va_S (fun q : Nat => s.heap.size ≤ q) s.heap H locs) (hl : lv_has ls 7 [(0, .ref b), (1, .ref (ad 0)), (2, .ref (am 0)), (3, .ref o), (4, .int x4)]) (hp : q_case_13 nx a1 a2 a3 a4 σ n v am g τ) (K : ∀ (σ' : Mem) (n' : Int64) (v' : Value) (am' g' : Nat → Nat) (τ' : Mem) (H' : Heap) (locs' : List Loc) (cells' slots' : Nat) (ls' : Array Slot), gk g' → nx σ' n' v' am' g' τ' → va_P D vwCl ((W5 k ad σ' ++ WO o n' v') ++ WM k am' g' τ') H' → va_D (fun q : Nat => s.heap.size ≤ q) ((W5 k ad σ' ++ WO o n' v') ++ WM k am' g' τ') → va_S (fun q : Nat => s.heap.size ≤ q) s.heap H' locs' → cells' ≤ cells + 100 → slots' ≤ slots + 1000 → lv_has ls' 7 [(0, .ref b), (1, .ref (ad 0)), (2, .ref (am' 0)), (3, .ref o), (4, .int x4)] → W p l e room_1 s m #[Value.ref b] below meth c H' locs' cells' slots' Q (F0 m 1248 ls' [])) : W p l e room_1 s m #[Value.ref b] below meth c H locs cells slots Q (F0 m 804 ls []) := by
  obtain ⟨hx, hb, hr, hml, hown, hts0, hX, hbl, hlocks, hgv⟩ := id C0
  have hts : ∀ w ∈ wLAW, w.before #[Value.ref b] s = true := jLAW hts0
  have hA : ∀ q : Nat, s.heap.size ≤ q → (fun q : Nat => s.heap.size ≤ q) q := fun _ h => h
  have hbA : ¬ (fun q : Nat => s.heap.size ≤ q) b := Nat.not_le.mpr hbl
  generalize hAe : (fun q : Nat => s.heap.size ≤ q) = A at hG hP hD hS hA hbA K
  have hC : Cx p m c code 7 s #[Value.ref b] wLAW RL D k A := ⟨⟨hx, hb, hml, hown, hts⟩, hG, hA⟩
  have hK := hG.1
  have hown : s.vm.findClass RL = some m.cls := hown
  have hin_X6 : ∀ w ∈ u_ws RX6 TX6 2, w ∈ wLAW := fun w h => iUB_X6 w h
  unfold q_case_13 at hp
  refine lv_aload_n hx hb dL_law_804 rfl (lv_at hl 1 rfl) ?_
  have hP5 : va_P D vwCl (W5 k ad σ ++ (WO o n v ++ WM k am g τ)) H := by rw [← List.append_assoc]; exact hP
  have hD5 : va_D A (W5 k ad σ ++ (WO o n v ++ WM k am g τ)) := by rw [← List.append_assoc]; exact hD
  refine fw_ciV (wf := fun u : Mem => W5 k ad u) (wN := fun u : Mem => W5 k ad u ++ (WO o n v ++ WM k am g τ)) (As := []) (rest := []) hC (c_X5_knock l D k ad hp) (cwV 0 hts (gT (wsV RL 159 RX5 yX5_knock wq_X5_knock) (mV2 B_158 B_159 B_160 (iB_A _ A_25) (iB_A _ A_270))) rfl rfl rfl (by decide +kernel) ⟨Nat.le_of_ble_eq_true rfl, Nat.le_of_ble_eq_true rfl⟩) (va_recv hK hP (ci := 9) (q0 := 0) rfl rfl) rfl hl.1 rfl (Nat.le_of_ble_eq_true rfl) dL_law_805 ⟨by show cells + 0 ≤ 601024; omega, by show slots + 0 ≤ 7293034; omega⟩ (P_left hP5) (D_left hD5) hS (Jn.left hP5 hD5) (fun r1 σ2 H locs hP hD hS hp => ?_)
  have hP : va_P D vwCl ((W5 k ad σ2 ++ WO o n v) ++ WM k am g τ) H := by rw [List.append_assoc]; exact hP
  have hD : va_D A ((W5 k ad σ2 ++ WO o n v) ++ WM k am g τ) := by rw [List.append_assoc]; exact hD
  refine lv_pop hx hb dL_law_808 rfl ?_
  refine lv_aload_n hx hb dL_law_809 rfl (lv_at hl 2 rfl) ?_
  refine fw_ciV (wf := fun u : Mem => WM k am g u) (wN := fun u : Mem => (W5 k ad σ2 ++ WO o n v) ++ WM k am g u) (As := []) (rest := []) hC (c_X8_knock l D k am g hgk.1 hp) (cwV 0 hts (gT (wsV RL 162 RX8 yX8_knock wq_X8_knock) (mV2 B_161 B_162 B_163 (iB_A _ A_601) (iB_A _ A_796))) rfl rfl rfl (by decide +kernel) ⟨Nat.le_of_ble_eq_true rfl, Nat.le_of_ble_eq_true rfl⟩) (va_recv hK (P_right hP) (ci := 12) (q0 := 0) rfl rfl) rfl hl.1 rfl (Nat.le_of_ble_eq_true rfl) dL_law_810 ⟨by show cells + 0 + 0 ≤ 601024; omega, by show slots + 0 + 0 ≤ 7293034; omega⟩ (P_right hP) (D_right hD) hS (Jn.right hP hD) (fun r3 τ4 H locs hP hD hS hp => ?_)
  have hP : va_P D vwCl ((W5 k ad σ2 ++ WO o n v) ++ WM k am g τ4) H := hP
  have hD : va_D A ((W5 k ad σ2 ++ WO o n v) ++ WM k am g τ4) := hD
  refine lv_pop hx hb dL_law_813 rfl ?_
  refine lv_goto (tgt := 1248) hx hb dL_law_814 (by decide) ?_
  exact K σ2 n v am g τ4 _ _ _ _ _ hgk hp hP hD hS (by omega) (by omega) (lv_sub hl [0, 1, 2, 3, 4] rfl)
def q_case_14 (nx : Mem → Int64 → Value → (Nat → Nat) → (Nat → Nat) → Mem → Prop) (a1 a2 a3 a4 : Int32) (σ : Mem) (n : Int64) (v : Value) (am g : Nat → Nat) (τ : Mem) : Prop := (q_L_ofField (fun (k1 : Int32) (σ2 : Mem) (n3 : Int64) (v4 : Value) => (q_X8_ofField (g 0) (g 2) (fun (r5 : Int32) (τ6 : Mem) => nx σ2 n3 v4 am g τ6) a1 a2 τ)) a1 a2 n v σ)
set_option maxHeartbeats 4000000 in
set_option maxRecDepth 100000 in
theorem cs_14 {p : Program} {e : Env} {s : State} {m : MethodId} {below : List Frame} {meth : Method} {c : Code} (l : Launch) (hflag : l.stackTraces = false) {b L : Nat} {xs : Nat → Int32} (C0 : lw_At p s m meth c b L xs) {D : va_G} {k : Nat → Nat} (hG : GG D k (fun q : Nat => s.heap.size ≤ q) s s.heap) (hN : NC s) {ad am g : Nat → Nat} {o : Nat} {σ τ : Mem} {n : Int64} {v : Value} {x4 a1 a2 a3 a4 : Int32} (hi1 : vp_in (x4 + 1) L) (hi2 : vp_in (x4 + 2) L) (hi3 : vp_in (x4 + 3) L) (hi4 : vp_in (x4 + 4) L) (ha1 : xs (x4 + 1).toNatClampNeg = a1) (ha2 : xs (x4 + 2).toNatClampNeg = a2) (ha3 : xs (x4 + 3).toNatClampNeg = a3) (ha4 : xs (x4 + 4).toNatClampNeg = a4) (hgk : gk g) {cells slots : Nat} (hcl : cells + 100 ≤ 601024) (hsl : slots + 1000 ≤ 7293034) {H : Heap} {locs : List Loc} {ls : Array Slot} {Q : State → Prop} {nx : Mem → Int64 → Value → (Nat → Nat) → (Nat → Nat) → Mem → Prop} (hP : va_P D vwCl ((W5 k ad σ ++ WO o n v) ++ WM k am g τ) H) (hD : va_D (fun q : Nat => s.heap.size ≤ q) ((W5 k ad σ ++ WO o n v) ++ WM k am g τ)) (hS : va_S (fun q : Nat => s.heap.size ≤ q) s.heap H locs) (hl : lv_has ls 7 [(0, .ref b), (1, .ref (ad 0)), (2, .ref (am 0)), (3, .ref o), (4, .int x4)]) (hp : q_case_14 nx a1 a2 a3 a4 σ n v am g τ) (K : ∀ (σ' : Mem) (n' : Int64) (v' : Value) (am' g' : Nat → Nat) (τ' : Mem) (H' : Heap) (locs' : List Loc) (cells' slots' : Nat) (ls' : Array Slot), gk g' → nx σ' n' v' am' g' τ' → va_P D vwCl ((W5 k ad σ' ++ WO o n' v') ++ WM k am' g' τ') H' → va_D (fun q : Nat => s.heap.size ≤ q) ((W5 k ad σ' ++ WO o n' v') ++ WM k am' g' τ') → va_S (fun q : Nat => s.heap.size ≤ q) s.heap H' locs' → cells' ≤ cells + 100 → slots' ≤ slots + 1000 → lv_has ls' 7 [(0, .ref b), (1, .ref (ad 0)), (2, .ref (am' 0)), (3, .ref o), (4, .int x4)] → W p l e room_1 s m #[Value.ref b] below meth c H' locs' cells' slots' Q (F0 m 1248 ls' [])) : W p l e room_1 s m #[Value.ref b] below meth c H locs cells slots Q (F0 m 817 ls []) := by
  obtain ⟨hx, hb, hr, hml, hown, hts0, hX, hbl, hlocks, hgv⟩ := id C0
  have hts : ∀ w ∈ wLAW, w.before #[Value.ref b] s = true := jLAW hts0
  have hA : ∀ q : Nat, s.heap.size ≤ q → (fun q : Nat => s.heap.size ≤ q) q := fun _ h => h
  have hbA : ¬ (fun q : Nat => s.heap.size ≤ q) b := Nat.not_le.mpr hbl
  generalize hAe : (fun q : Nat => s.heap.size ≤ q) = A at hG hP hD hS hA hbA K
  have hC : Cx p m c code 7 s #[Value.ref b] wLAW RL D k A := ⟨⟨hx, hb, hml, hown, hts⟩, hG, hA⟩
  have hK := hG.1
  have hown : s.vm.findClass RL = some m.cls := hown
  have hin_X6 : ∀ w ∈ u_ws RX6 TX6 2, w ∈ wLAW := fun w h => iUB_X6 w h
  unfold q_case_14 at hp
  refine lv_aload_n hx hb dL_law_817 rfl (lv_at hl 1 rfl) ?_
  refine lv_aload_n hx hb dL_law_818 rfl (lv_at hl 0 rfl) ?_
  refine lv_iload hx hb dL_law_819 (lv_at hl 4 rfl) ?_
  refine lv_iconst (v := 1) hx hb dL_law_821 (by decide) ?_
  refine lv_iadd hx hb dL_law_822 ?_
  refine va_sld hx hb hX hbl hbA hS hi1 dL_law_823 ?_
  rw [ha1]
  refine lv_aload_n hx hb dL_law_824 rfl (lv_at hl 0 rfl) ?_
  refine lv_iload hx hb dL_law_825 (lv_at hl 4 rfl) ?_
  refine lv_iconst (v := 2) hx hb dL_law_827 (by decide) ?_
  refine lv_iadd hx hb dL_law_828 ?_
  refine va_sld hx hb hX hbl hbA hS hi2 dL_law_829 ?_
  rw [ha2]
  refine lv_aload_n hx hb dL_law_830 rfl (lv_at hl 3 rfl) ?_
  refine fw_ciSL (S := Mem × Int64 × Value) (wf := fun u => W5 k ad u.1 ++ WO o u.2.1 u.2.2) (wN := fun u => (W5 k ad u.1 ++ WO o u.2.1 u.2.2) ++ WM k am g τ) (As := [.ref (ad 0), .int a1, .int a2, .ref o]) (rest := []) hC hN (c_L_ofField l hflag D k ad o hp) (vx_cwSW 4 hts (gT (va_wsS RL 163 yL_ofField wq_L_ofField) (mS2 B_164 B_165 B_94 B_56)) rfl rfl rfl (by decide +kernel) ⟨Nat.le_of_ble_eq_true rfl, Nat.le_of_ble_eq_true rfl⟩) rfl hl.1 rfl (Nat.le_of_ble_eq_true rfl) dL_law_831 ⟨by show cells + 1 ≤ 601024; omega, by show slots + 6 ≤ 7293034; omega⟩ (P_left hP) (D_left hD) hS (Jn.left hP hD) (fun k1 u9 H locs hP hD hS hp => ?_)
  obtain ⟨σ2, n3, v4⟩ := u9
  have hP : va_P D vwCl ((W5 k ad σ2 ++ WO o n3 v4) ++ WM k am g τ) H := hP
  have hD : va_D A ((W5 k ad σ2 ++ WO o n3 v4) ++ WM k am g τ) := hD
  refine lv_istore (lv' := [(5, .int k1), (0, .ref b), (1, .ref (ad 0)), (2, .ref (am 0)), (3, .ref o), (4, .int x4)]) hx hb dL_law_834 hl (by decide) rfl (fun ls hl => ?_)
  refine lv_aload_n hx hb dL_law_836 rfl (lv_at hl 3 rfl) ?_
  refine lv_aload_n hx hb dL_law_837 rfl (lv_at hl 1 rfl) ?_
  refine lv_iload hx hb dL_law_838 (lv_at hl 5 rfl) ?_
  refine lv_iconst (v := 1) hx hb dL_law_840 (by decide) ?_
  refine lv_iadd hx hb dL_law_841 ?_
  refine va_sld hx hb hX hbl hbA hS hi1 dL_law_842 ?_
  rw [ha1]
  refine lv_aload_n hx hb dL_law_843 rfl (lv_at hl 1 rfl) ?_
  refine lv_iload hx hb dL_law_844 (lv_at hl 5 rfl) ?_
  refine lv_iconst (v := 2) hx hb dL_law_846 (by decide) ?_
  refine lv_iadd hx hb dL_law_847 ?_
  refine va_sld hx hb hX hbl hbA hS hi2 dL_law_848 ?_
  rw [ha2]
  refine fw_ciV (wf := fun u : Mem => WM k am g u) (wN := fun u : Mem => (W5 k ad σ2 ++ WO o n3 v4) ++ WM k am g u) (As := [.int a1, .int a2]) (rest := []) hC (c_X8_ofField l D k am g hgk.1 hp) (cwV 2 hts (gT (wsV RL 165 RX8 yX8_ofField wq_X8_ofField) (mV2 B_166 B_167 B_168 (iB_A _ A_601) (iB_A _ A_815))) rfl rfl rfl (by decide +kernel) ⟨Nat.le_of_ble_eq_true rfl, Nat.le_of_ble_eq_true rfl⟩) (va_recv hK (P_right hP) (ci := 12) (q0 := 0) rfl rfl) rfl hl.1 rfl (Nat.le_of_ble_eq_true rfl) dL_law_849 ⟨by show cells + 1 + 0 ≤ 601024; omega, by show slots + 6 + 0 ≤ 7293034; omega⟩ (P_right hP) (D_right hD) hS (Jn.right hP hD) (fun r5 τ6 H locs hP hD hS hp => ?_)
  have hP : va_P D vwCl ((W5 k ad σ2 ++ WO o n3 v4) ++ WM k am g τ6) H := hP
  have hD : va_D A ((W5 k ad σ2 ++ WO o n3 v4) ++ WM k am g τ6) := hD
  refine lv_istore (lv' := [(6, .int r5), (5, .int k1), (0, .ref b), (1, .ref (ad 0)), (2, .ref (am 0)), (3, .ref o), (4, .int x4)]) hx hb dL_law_852 hl (by decide) rfl (fun ls hl => ?_)
  refine lv_goto (tgt := 1248) hx hb dL_law_854 (by decide) ?_
  exact K σ2 n3 v4 am g τ6 _ _ _ _ _ hgk hp hP hD hS (by omega) (by omega) (lv_sub hl [2, 3, 4, 5, 6] rfl)
def q_case_15 (nx : Mem → Int64 → Value → (Nat → Nat) → (Nat → Nat) → Mem → Prop) (a1 a2 a3 a4 : Int32) (σ : Mem) (n : Int64) (v : Value) (am g : Nat → Nat) (τ : Mem) : Prop := (q_L_ofLine (fun (k1 : Int32) (σ2 : Mem) (n3 : Int64) (v4 : Value) => (q_X8_ofLine (g 0) (g 2) (fun (r5 : Int32) (τ6 : Mem) => nx σ2 n3 v4 am g τ6) a1 a2 τ)) a1 a2 n v σ)
set_option maxHeartbeats 4000000 in
set_option maxRecDepth 100000 in
theorem cs_15 {p : Program} {e : Env} {s : State} {m : MethodId} {below : List Frame} {meth : Method} {c : Code} (l : Launch) (hflag : l.stackTraces = false) {b L : Nat} {xs : Nat → Int32} (C0 : lw_At p s m meth c b L xs) {D : va_G} {k : Nat → Nat} (hG : GG D k (fun q : Nat => s.heap.size ≤ q) s s.heap) (hN : NC s) {ad am g : Nat → Nat} {o : Nat} {σ τ : Mem} {n : Int64} {v : Value} {x4 a1 a2 a3 a4 : Int32} (hi1 : vp_in (x4 + 1) L) (hi2 : vp_in (x4 + 2) L) (hi3 : vp_in (x4 + 3) L) (hi4 : vp_in (x4 + 4) L) (ha1 : xs (x4 + 1).toNatClampNeg = a1) (ha2 : xs (x4 + 2).toNatClampNeg = a2) (ha3 : xs (x4 + 3).toNatClampNeg = a3) (ha4 : xs (x4 + 4).toNatClampNeg = a4) (hgk : gk g) {cells slots : Nat} (hcl : cells + 100 ≤ 601024) (hsl : slots + 1000 ≤ 7293034) {H : Heap} {locs : List Loc} {ls : Array Slot} {Q : State → Prop} {nx : Mem → Int64 → Value → (Nat → Nat) → (Nat → Nat) → Mem → Prop} (hP : va_P D vwCl ((W5 k ad σ ++ WO o n v) ++ WM k am g τ) H) (hD : va_D (fun q : Nat => s.heap.size ≤ q) ((W5 k ad σ ++ WO o n v) ++ WM k am g τ)) (hS : va_S (fun q : Nat => s.heap.size ≤ q) s.heap H locs) (hl : lv_has ls 7 [(0, .ref b), (1, .ref (ad 0)), (2, .ref (am 0)), (3, .ref o), (4, .int x4)]) (hp : q_case_15 nx a1 a2 a3 a4 σ n v am g τ) (K : ∀ (σ' : Mem) (n' : Int64) (v' : Value) (am' g' : Nat → Nat) (τ' : Mem) (H' : Heap) (locs' : List Loc) (cells' slots' : Nat) (ls' : Array Slot), gk g' → nx σ' n' v' am' g' τ' → va_P D vwCl ((W5 k ad σ' ++ WO o n' v') ++ WM k am' g' τ') H' → va_D (fun q : Nat => s.heap.size ≤ q) ((W5 k ad σ' ++ WO o n' v') ++ WM k am' g' τ') → va_S (fun q : Nat => s.heap.size ≤ q) s.heap H' locs' → cells' ≤ cells + 100 → slots' ≤ slots + 1000 → lv_has ls' 7 [(0, .ref b), (1, .ref (ad 0)), (2, .ref (am' 0)), (3, .ref o), (4, .int x4)] → W p l e room_1 s m #[Value.ref b] below meth c H' locs' cells' slots' Q (F0 m 1248 ls' [])) : W p l e room_1 s m #[Value.ref b] below meth c H locs cells slots Q (F0 m 857 ls []) := by
  obtain ⟨hx, hb, hr, hml, hown, hts0, hX, hbl, hlocks, hgv⟩ := id C0
  have hts : ∀ w ∈ wLAW, w.before #[Value.ref b] s = true := jLAW hts0
  have hA : ∀ q : Nat, s.heap.size ≤ q → (fun q : Nat => s.heap.size ≤ q) q := fun _ h => h
  have hbA : ¬ (fun q : Nat => s.heap.size ≤ q) b := Nat.not_le.mpr hbl
  generalize hAe : (fun q : Nat => s.heap.size ≤ q) = A at hG hP hD hS hA hbA K
  have hC : Cx p m c code 7 s #[Value.ref b] wLAW RL D k A := ⟨⟨hx, hb, hml, hown, hts⟩, hG, hA⟩
  have hK := hG.1
  have hown : s.vm.findClass RL = some m.cls := hown
  have hin_X6 : ∀ w ∈ u_ws RX6 TX6 2, w ∈ wLAW := fun w h => iUB_X6 w h
  unfold q_case_15 at hp
  refine lv_aload_n hx hb dL_law_857 rfl (lv_at hl 1 rfl) ?_
  refine lv_aload_n hx hb dL_law_858 rfl (lv_at hl 0 rfl) ?_
  refine lv_iload hx hb dL_law_859 (lv_at hl 4 rfl) ?_
  refine lv_iconst (v := 1) hx hb dL_law_861 (by decide) ?_
  refine lv_iadd hx hb dL_law_862 ?_
  refine va_sld hx hb hX hbl hbA hS hi1 dL_law_863 ?_
  rw [ha1]
  refine lv_aload_n hx hb dL_law_864 rfl (lv_at hl 0 rfl) ?_
  refine lv_iload hx hb dL_law_865 (lv_at hl 4 rfl) ?_
  refine lv_iconst (v := 2) hx hb dL_law_867 (by decide) ?_
  refine lv_iadd hx hb dL_law_868 ?_
  refine va_sld hx hb hX hbl hbA hS hi2 dL_law_869 ?_
  rw [ha2]
  refine lv_aload_n hx hb dL_law_870 rfl (lv_at hl 3 rfl) ?_
  refine fw_ciSL (S := Mem × Int64 × Value) (wf := fun u => W5 k ad u.1 ++ WO o u.2.1 u.2.2) (wN := fun u => (W5 k ad u.1 ++ WO o u.2.1 u.2.2) ++ WM k am g τ) (As := [.ref (ad 0), .int a1, .int a2, .ref o]) (rest := []) hC hN (c_L_ofLine l hflag D k ad o hp) (vx_cwSW 4 hts (gT (va_wsS RL 166 yL_ofLine wq_L_ofLine) (mS2 B_169 B_170 B_94 B_58)) rfl rfl rfl (by decide +kernel) ⟨Nat.le_of_ble_eq_true rfl, Nat.le_of_ble_eq_true rfl⟩) rfl hl.1 rfl (Nat.le_of_ble_eq_true rfl) dL_law_871 ⟨by show cells + 1 ≤ 601024; omega, by show slots + 6 ≤ 7293034; omega⟩ (P_left hP) (D_left hD) hS (Jn.left hP hD) (fun k1 u9 H locs hP hD hS hp => ?_)
  obtain ⟨σ2, n3, v4⟩ := u9
  have hP : va_P D vwCl ((W5 k ad σ2 ++ WO o n3 v4) ++ WM k am g τ) H := hP
  have hD : va_D A ((W5 k ad σ2 ++ WO o n3 v4) ++ WM k am g τ) := hD
  refine lv_istore (lv' := [(5, .int k1), (0, .ref b), (1, .ref (ad 0)), (2, .ref (am 0)), (3, .ref o), (4, .int x4)]) hx hb dL_law_874 hl (by decide) rfl (fun ls hl => ?_)
  refine lv_aload_n hx hb dL_law_876 rfl (lv_at hl 3 rfl) ?_
  refine lv_aload_n hx hb dL_law_877 rfl (lv_at hl 1 rfl) ?_
  refine lv_iload hx hb dL_law_878 (lv_at hl 5 rfl) ?_
  refine lv_iconst (v := 1) hx hb dL_law_880 (by decide) ?_
  refine lv_iadd hx hb dL_law_881 ?_
  refine va_sld hx hb hX hbl hbA hS hi1 dL_law_882 ?_
  rw [ha1]
  refine lv_aload_n hx hb dL_law_883 rfl (lv_at hl 1 rfl) ?_
  refine lv_iload hx hb dL_law_884 (lv_at hl 5 rfl) ?_
  refine lv_iconst (v := 2) hx hb dL_law_886 (by decide) ?_
  refine lv_iadd hx hb dL_law_887 ?_
  refine va_sld hx hb hX hbl hbA hS hi2 dL_law_888 ?_
  rw [ha2]
  refine fw_ciV (wf := fun u : Mem => WM k am g u) (wN := fun u : Mem => (W5 k ad σ2 ++ WO o n3 v4) ++ WM k am g u) (As := [.int a1, .int a2]) (rest := []) hC (c_X8_ofLine l D k am g hgk.1 hp) (cwV 2 hts (gT (wsV RL 168 RX8 yX8_ofLine wq_X8_ofLine) (mV2 B_171 B_172 B_173 (iB_A _ A_601) (iB_A _ A_823))) rfl rfl rfl (by decide +kernel) ⟨Nat.le_of_ble_eq_true rfl, Nat.le_of_ble_eq_true rfl⟩) (va_recv hK (P_right hP) (ci := 12) (q0 := 0) rfl rfl) rfl hl.1 rfl (Nat.le_of_ble_eq_true rfl) dL_law_889 ⟨by show cells + 1 + 0 ≤ 601024; omega, by show slots + 6 + 0 ≤ 7293034; omega⟩ (P_right hP) (D_right hD) hS (Jn.right hP hD) (fun r5 τ6 H locs hP hD hS hp => ?_)
  have hP : va_P D vwCl ((W5 k ad σ2 ++ WO o n3 v4) ++ WM k am g τ6) H := hP
  have hD : va_D A ((W5 k ad σ2 ++ WO o n3 v4) ++ WM k am g τ6) := hD
  refine lv_istore (lv' := [(6, .int r5), (5, .int k1), (0, .ref b), (1, .ref (ad 0)), (2, .ref (am 0)), (3, .ref o), (4, .int x4)]) hx hb dL_law_892 hl (by decide) rfl (fun ls hl => ?_)
  refine lv_goto (tgt := 1248) hx hb dL_law_894 (by decide) ?_
  exact K σ2 n3 v4 am g τ6 _ _ _ _ _ hgk hp hP hD hS (by omega) (by omega) (lv_sub hl [2, 3, 4, 5, 6] rfl)
def q_case_16 (nx : Mem → Int64 → Value → (Nat → Nat) → (Nat → Nat) → Mem → Prop) (a1 a2 a3 a4 : Int32) (σ : Mem) (n : Int64) (v : Value) (am g : Nat → Nat) (τ : Mem) : Prop := (q_L_ofMachine (fun (k1 : Int32) (σ2 : Mem) (n3 : Int64) (v4 : Value) => (q_X8_ofMachine (g 0) (g 2) (fun (r5 : Int32) (τ6 : Mem) => nx σ2 n3 v4 am g τ6) a1 a2 τ)) a1 a2 n v σ)
set_option maxHeartbeats 4000000 in
set_option maxRecDepth 100000 in
theorem cs_16 {p : Program} {e : Env} {s : State} {m : MethodId} {below : List Frame} {meth : Method} {c : Code} (l : Launch) (hflag : l.stackTraces = false) {b L : Nat} {xs : Nat → Int32} (C0 : lw_At p s m meth c b L xs) {D : va_G} {k : Nat → Nat} (hG : GG D k (fun q : Nat => s.heap.size ≤ q) s s.heap) (hN : NC s) {ad am g : Nat → Nat} {o : Nat} {σ τ : Mem} {n : Int64} {v : Value} {x4 a1 a2 a3 a4 : Int32} (hi1 : vp_in (x4 + 1) L) (hi2 : vp_in (x4 + 2) L) (hi3 : vp_in (x4 + 3) L) (hi4 : vp_in (x4 + 4) L) (ha1 : xs (x4 + 1).toNatClampNeg = a1) (ha2 : xs (x4 + 2).toNatClampNeg = a2) (ha3 : xs (x4 + 3).toNatClampNeg = a3) (ha4 : xs (x4 + 4).toNatClampNeg = a4) (hgk : gk g) {cells slots : Nat} (hcl : cells + 100 ≤ 601024) (hsl : slots + 1000 ≤ 7293034) {H : Heap} {locs : List Loc} {ls : Array Slot} {Q : State → Prop} {nx : Mem → Int64 → Value → (Nat → Nat) → (Nat → Nat) → Mem → Prop} (hP : va_P D vwCl ((W5 k ad σ ++ WO o n v) ++ WM k am g τ) H) (hD : va_D (fun q : Nat => s.heap.size ≤ q) ((W5 k ad σ ++ WO o n v) ++ WM k am g τ)) (hS : va_S (fun q : Nat => s.heap.size ≤ q) s.heap H locs) (hl : lv_has ls 7 [(0, .ref b), (1, .ref (ad 0)), (2, .ref (am 0)), (3, .ref o), (4, .int x4)]) (hp : q_case_16 nx a1 a2 a3 a4 σ n v am g τ) (K : ∀ (σ' : Mem) (n' : Int64) (v' : Value) (am' g' : Nat → Nat) (τ' : Mem) (H' : Heap) (locs' : List Loc) (cells' slots' : Nat) (ls' : Array Slot), gk g' → nx σ' n' v' am' g' τ' → va_P D vwCl ((W5 k ad σ' ++ WO o n' v') ++ WM k am' g' τ') H' → va_D (fun q : Nat => s.heap.size ≤ q) ((W5 k ad σ' ++ WO o n' v') ++ WM k am' g' τ') → va_S (fun q : Nat => s.heap.size ≤ q) s.heap H' locs' → cells' ≤ cells + 100 → slots' ≤ slots + 1000 → lv_has ls' 7 [(0, .ref b), (1, .ref (ad 0)), (2, .ref (am' 0)), (3, .ref o), (4, .int x4)] → W p l e room_1 s m #[Value.ref b] below meth c H' locs' cells' slots' Q (F0 m 1248 ls' [])) : W p l e room_1 s m #[Value.ref b] below meth c H locs cells slots Q (F0 m 897 ls []) := by
  obtain ⟨hx, hb, hr, hml, hown, hts0, hX, hbl, hlocks, hgv⟩ := id C0
  have hts : ∀ w ∈ wLAW, w.before #[Value.ref b] s = true := jLAW hts0
  have hA : ∀ q : Nat, s.heap.size ≤ q → (fun q : Nat => s.heap.size ≤ q) q := fun _ h => h
  have hbA : ¬ (fun q : Nat => s.heap.size ≤ q) b := Nat.not_le.mpr hbl
  generalize hAe : (fun q : Nat => s.heap.size ≤ q) = A at hG hP hD hS hA hbA K
  have hC : Cx p m c code 7 s #[Value.ref b] wLAW RL D k A := ⟨⟨hx, hb, hml, hown, hts⟩, hG, hA⟩
  have hK := hG.1
  have hown : s.vm.findClass RL = some m.cls := hown
  have hin_X6 : ∀ w ∈ u_ws RX6 TX6 2, w ∈ wLAW := fun w h => iUB_X6 w h
  unfold q_case_16 at hp
  refine lv_aload_n hx hb dL_law_897 rfl (lv_at hl 1 rfl) ?_
  refine lv_aload_n hx hb dL_law_898 rfl (lv_at hl 0 rfl) ?_
  refine lv_iload hx hb dL_law_899 (lv_at hl 4 rfl) ?_
  refine lv_iconst (v := 1) hx hb dL_law_901 (by decide) ?_
  refine lv_iadd hx hb dL_law_902 ?_
  refine va_sld hx hb hX hbl hbA hS hi1 dL_law_903 ?_
  rw [ha1]
  refine lv_aload_n hx hb dL_law_904 rfl (lv_at hl 0 rfl) ?_
  refine lv_iload hx hb dL_law_905 (lv_at hl 4 rfl) ?_
  refine lv_iconst (v := 2) hx hb dL_law_907 (by decide) ?_
  refine lv_iadd hx hb dL_law_908 ?_
  refine va_sld hx hb hX hbl hbA hS hi2 dL_law_909 ?_
  rw [ha2]
  refine lv_aload_n hx hb dL_law_910 rfl (lv_at hl 3 rfl) ?_
  refine fw_ciSL (S := Mem × Int64 × Value) (wf := fun u => W5 k ad u.1 ++ WO o u.2.1 u.2.2) (wN := fun u => (W5 k ad u.1 ++ WO o u.2.1 u.2.2) ++ WM k am g τ) (As := [.ref (ad 0), .int a1, .int a2, .ref o]) (rest := []) hC hN (c_L_ofMachine l hflag D k ad o hp) (vx_cwSW 4 hts (gT (va_wsS RL 169 yL_ofMachine wq_L_ofMachine) (mS2 B_174 B_175 B_94 B_60)) rfl rfl rfl (by decide +kernel) ⟨Nat.le_of_ble_eq_true rfl, Nat.le_of_ble_eq_true rfl⟩) rfl hl.1 rfl (Nat.le_of_ble_eq_true rfl) dL_law_911 ⟨by show cells + 1 ≤ 601024; omega, by show slots + 6 ≤ 7293034; omega⟩ (P_left hP) (D_left hD) hS (Jn.left hP hD) (fun k1 u9 H locs hP hD hS hp => ?_)
  obtain ⟨σ2, n3, v4⟩ := u9
  have hP : va_P D vwCl ((W5 k ad σ2 ++ WO o n3 v4) ++ WM k am g τ) H := hP
  have hD : va_D A ((W5 k ad σ2 ++ WO o n3 v4) ++ WM k am g τ) := hD
  refine lv_istore (lv' := [(5, .int k1), (0, .ref b), (1, .ref (ad 0)), (2, .ref (am 0)), (3, .ref o), (4, .int x4)]) hx hb dL_law_914 hl (by decide) rfl (fun ls hl => ?_)
  refine lv_aload_n hx hb dL_law_916 rfl (lv_at hl 3 rfl) ?_
  refine lv_aload_n hx hb dL_law_917 rfl (lv_at hl 1 rfl) ?_
  refine lv_iload hx hb dL_law_918 (lv_at hl 5 rfl) ?_
  refine lv_iconst (v := 1) hx hb dL_law_920 (by decide) ?_
  refine lv_iadd hx hb dL_law_921 ?_
  refine va_sld hx hb hX hbl hbA hS hi1 dL_law_922 ?_
  rw [ha1]
  refine lv_aload_n hx hb dL_law_923 rfl (lv_at hl 1 rfl) ?_
  refine lv_iload hx hb dL_law_924 (lv_at hl 5 rfl) ?_
  refine lv_iconst (v := 2) hx hb dL_law_926 (by decide) ?_
  refine lv_iadd hx hb dL_law_927 ?_
  refine va_sld hx hb hX hbl hbA hS hi2 dL_law_928 ?_
  rw [ha2]
  refine fw_ciV (wf := fun u : Mem => WM k am g u) (wN := fun u : Mem => (W5 k ad σ2 ++ WO o n3 v4) ++ WM k am g u) (As := [.int a1, .int a2]) (rest := []) hC (c_X8_ofMachine l D k am g hgk.1 hp) (cwV 2 hts (gT (wsV RL 171 RX8 yX8_ofMachine wq_X8_ofMachine) (mV2 B_176 B_177 B_178 (iB_A _ A_601) (iB_A _ A_828))) rfl rfl rfl (by decide +kernel) ⟨Nat.le_of_ble_eq_true rfl, Nat.le_of_ble_eq_true rfl⟩) (va_recv hK (P_right hP) (ci := 12) (q0 := 0) rfl rfl) rfl hl.1 rfl (Nat.le_of_ble_eq_true rfl) dL_law_929 ⟨by show cells + 1 + 0 ≤ 601024; omega, by show slots + 6 + 0 ≤ 7293034; omega⟩ (P_right hP) (D_right hD) hS (Jn.right hP hD) (fun r5 τ6 H locs hP hD hS hp => ?_)
  have hP : va_P D vwCl ((W5 k ad σ2 ++ WO o n3 v4) ++ WM k am g τ6) H := hP
  have hD : va_D A ((W5 k ad σ2 ++ WO o n3 v4) ++ WM k am g τ6) := hD
  refine lv_istore (lv' := [(6, .int r5), (5, .int k1), (0, .ref b), (1, .ref (ad 0)), (2, .ref (am 0)), (3, .ref o), (4, .int x4)]) hx hb dL_law_932 hl (by decide) rfl (fun ls hl => ?_)
  refine lv_goto (tgt := 1248) hx hb dL_law_934 (by decide) ?_
  exact K σ2 n3 v4 am g τ6 _ _ _ _ _ hgk hp hP hD hS (by omega) (by omega) (lv_sub hl [2, 3, 4, 5, 6] rfl)
def q_case_17 (nx : Mem → Int64 → Value → (Nat → Nat) → (Nat → Nat) → Mem → Prop) (a1 a2 a3 a4 : Int32) (σ : Mem) (n : Int64) (v : Value) (am g : Nat → Nat) (τ : Mem) : Prop := (q_L_has (fun (k1 : Int32) (σ2 : Mem) (n3 : Int64) (v4 : Value) => (q_X8_has (g 0) (g 2) (fun (r5 : Int32) (τ6 : Mem) => nx σ2 n3 v4 am g τ6) a1 a2 τ)) a1 a2 n v σ)
set_option maxHeartbeats 4000000 in
set_option maxRecDepth 100000 in
theorem cs_17 {p : Program} {e : Env} {s : State} {m : MethodId} {below : List Frame} {meth : Method} {c : Code} (l : Launch) (hflag : l.stackTraces = false) {b L : Nat} {xs : Nat → Int32} (C0 : lw_At p s m meth c b L xs) {D : va_G} {k : Nat → Nat} (hG : GG D k (fun q : Nat => s.heap.size ≤ q) s s.heap) (hN : NC s) {ad am g : Nat → Nat} {o : Nat} {σ τ : Mem} {n : Int64} {v : Value} {x4 a1 a2 a3 a4 : Int32} (hi1 : vp_in (x4 + 1) L) (hi2 : vp_in (x4 + 2) L) (hi3 : vp_in (x4 + 3) L) (hi4 : vp_in (x4 + 4) L) (ha1 : xs (x4 + 1).toNatClampNeg = a1) (ha2 : xs (x4 + 2).toNatClampNeg = a2) (ha3 : xs (x4 + 3).toNatClampNeg = a3) (ha4 : xs (x4 + 4).toNatClampNeg = a4) (hgk : gk g) {cells slots : Nat} (hcl : cells + 100 ≤ 601024) (hsl : slots + 1000 ≤ 7293034) {H : Heap} {locs : List Loc} {ls : Array Slot} {Q : State → Prop} {nx : Mem → Int64 → Value → (Nat → Nat) → (Nat → Nat) → Mem → Prop} (hP : va_P D vwCl ((W5 k ad σ ++ WO o n v) ++ WM k am g τ) H) (hD : va_D (fun q : Nat => s.heap.size ≤ q) ((W5 k ad σ ++ WO o n v) ++ WM k am g τ)) (hS : va_S (fun q : Nat => s.heap.size ≤ q) s.heap H locs) (hl : lv_has ls 7 [(0, .ref b), (1, .ref (ad 0)), (2, .ref (am 0)), (3, .ref o), (4, .int x4)]) (hp : q_case_17 nx a1 a2 a3 a4 σ n v am g τ) (K : ∀ (σ' : Mem) (n' : Int64) (v' : Value) (am' g' : Nat → Nat) (τ' : Mem) (H' : Heap) (locs' : List Loc) (cells' slots' : Nat) (ls' : Array Slot), gk g' → nx σ' n' v' am' g' τ' → va_P D vwCl ((W5 k ad σ' ++ WO o n' v') ++ WM k am' g' τ') H' → va_D (fun q : Nat => s.heap.size ≤ q) ((W5 k ad σ' ++ WO o n' v') ++ WM k am' g' τ') → va_S (fun q : Nat => s.heap.size ≤ q) s.heap H' locs' → cells' ≤ cells + 100 → slots' ≤ slots + 1000 → lv_has ls' 7 [(0, .ref b), (1, .ref (ad 0)), (2, .ref (am' 0)), (3, .ref o), (4, .int x4)] → W p l e room_1 s m #[Value.ref b] below meth c H' locs' cells' slots' Q (F0 m 1248 ls' [])) : W p l e room_1 s m #[Value.ref b] below meth c H locs cells slots Q (F0 m 937 ls []) := by
  obtain ⟨hx, hb, hr, hml, hown, hts0, hX, hbl, hlocks, hgv⟩ := id C0
  have hts : ∀ w ∈ wLAW, w.before #[Value.ref b] s = true := jLAW hts0
  have hA : ∀ q : Nat, s.heap.size ≤ q → (fun q : Nat => s.heap.size ≤ q) q := fun _ h => h
  have hbA : ¬ (fun q : Nat => s.heap.size ≤ q) b := Nat.not_le.mpr hbl
  generalize hAe : (fun q : Nat => s.heap.size ≤ q) = A at hG hP hD hS hA hbA K
  have hC : Cx p m c code 7 s #[Value.ref b] wLAW RL D k A := ⟨⟨hx, hb, hml, hown, hts⟩, hG, hA⟩
  have hK := hG.1
  have hown : s.vm.findClass RL = some m.cls := hown
  have hin_X6 : ∀ w ∈ u_ws RX6 TX6 2, w ∈ wLAW := fun w h => iUB_X6 w h
  unfold q_case_17 at hp
  refine lv_aload_n hx hb dL_law_937 rfl (lv_at hl 1 rfl) ?_
  refine lv_aload_n hx hb dL_law_938 rfl (lv_at hl 0 rfl) ?_
  refine lv_iload hx hb dL_law_939 (lv_at hl 4 rfl) ?_
  refine lv_iconst (v := 1) hx hb dL_law_941 (by decide) ?_
  refine lv_iadd hx hb dL_law_942 ?_
  refine va_sld hx hb hX hbl hbA hS hi1 dL_law_943 ?_
  rw [ha1]
  refine lv_aload_n hx hb dL_law_944 rfl (lv_at hl 0 rfl) ?_
  refine lv_iload hx hb dL_law_945 (lv_at hl 4 rfl) ?_
  refine lv_iconst (v := 2) hx hb dL_law_947 (by decide) ?_
  refine lv_iadd hx hb dL_law_948 ?_
  refine va_sld hx hb hX hbl hbA hS hi2 dL_law_949 ?_
  rw [ha2]
  refine lv_aload_n hx hb dL_law_950 rfl (lv_at hl 3 rfl) ?_
  refine fw_ciSL (S := Mem × Int64 × Value) (wf := fun u => W5 k ad u.1 ++ WO o u.2.1 u.2.2) (wN := fun u => (W5 k ad u.1 ++ WO o u.2.1 u.2.2) ++ WM k am g τ) (As := [.ref (ad 0), .int a1, .int a2, .ref o]) (rest := []) hC hN (c_L_has l hflag D k ad o hp) (vx_cwSW 4 hts (gT (va_wsS RL 172 yL_has wq_L_has) (mS2 B_179 B_180 B_94 B_61)) rfl rfl rfl (by decide +kernel) ⟨Nat.le_of_ble_eq_true rfl, Nat.le_of_ble_eq_true rfl⟩) rfl hl.1 rfl (Nat.le_of_ble_eq_true rfl) dL_law_951 ⟨by show cells + 1 ≤ 601024; omega, by show slots + 6 ≤ 7293034; omega⟩ (P_left hP) (D_left hD) hS (Jn.left hP hD) (fun k1 u9 H locs hP hD hS hp => ?_)
  obtain ⟨σ2, n3, v4⟩ := u9
  have hP : va_P D vwCl ((W5 k ad σ2 ++ WO o n3 v4) ++ WM k am g τ) H := hP
  have hD : va_D A ((W5 k ad σ2 ++ WO o n3 v4) ++ WM k am g τ) := hD
  refine lv_istore (lv' := [(5, .int k1), (0, .ref b), (1, .ref (ad 0)), (2, .ref (am 0)), (3, .ref o), (4, .int x4)]) hx hb dL_law_954 hl (by decide) rfl (fun ls hl => ?_)
  refine lv_aload_n hx hb dL_law_956 rfl (lv_at hl 3 rfl) ?_
  refine lv_aload_n hx hb dL_law_957 rfl (lv_at hl 1 rfl) ?_
  refine lv_iload hx hb dL_law_958 (lv_at hl 5 rfl) ?_
  refine lv_iconst (v := 1) hx hb dL_law_960 (by decide) ?_
  refine lv_iadd hx hb dL_law_961 ?_
  refine va_sld hx hb hX hbl hbA hS hi1 dL_law_962 ?_
  rw [ha1]
  refine lv_aload_n hx hb dL_law_963 rfl (lv_at hl 1 rfl) ?_
  refine lv_iload hx hb dL_law_964 (lv_at hl 5 rfl) ?_
  refine lv_iconst (v := 2) hx hb dL_law_966 (by decide) ?_
  refine lv_iadd hx hb dL_law_967 ?_
  refine va_sld hx hb hX hbl hbA hS hi2 dL_law_968 ?_
  rw [ha2]
  refine fw_ciV (wf := fun u : Mem => WM k am g u) (wN := fun u : Mem => (W5 k ad σ2 ++ WO o n3 v4) ++ WM k am g u) (As := [.int a1, .int a2]) (rest := []) hC (c_X8_has l D k am g hgk.1 hp) (cwV 2 hts (gT (wsV RL 174 RX8 yX8_has wq_X8_has) (mV2 B_182 B_183 B_184 (iB_A _ A_601) (iB_A _ A_829))) rfl rfl rfl (by decide +kernel) ⟨Nat.le_of_ble_eq_true rfl, Nat.le_of_ble_eq_true rfl⟩) (va_recv hK (P_right hP) (ci := 12) (q0 := 0) rfl rfl) rfl hl.1 rfl (Nat.le_of_ble_eq_true rfl) dL_law_969 ⟨by show cells + 1 + 0 ≤ 601024; omega, by show slots + 6 + 0 ≤ 7293034; omega⟩ (P_right hP) (D_right hD) hS (Jn.right hP hD) (fun r5 τ6 H locs hP hD hS hp => ?_)
  have hP : va_P D vwCl ((W5 k ad σ2 ++ WO o n3 v4) ++ WM k am g τ6) H := hP
  have hD : va_D A ((W5 k ad σ2 ++ WO o n3 v4) ++ WM k am g τ6) := hD
  refine lv_istore (lv' := [(6, .int r5), (5, .int k1), (0, .ref b), (1, .ref (ad 0)), (2, .ref (am 0)), (3, .ref o), (4, .int x4)]) hx hb dL_law_972 hl (by decide) rfl (fun ls hl => ?_)
  refine lv_goto (tgt := 1248) hx hb dL_law_974 (by decide) ?_
  exact K σ2 n3 v4 am g τ6 _ _ _ _ _ hgk hp hP hD hS (by omega) (by omega) (lv_sub hl [2, 3, 4, 5, 6] rfl)
def q_case_18 (nx : Mem → Int64 → Value → (Nat → Nat) → (Nat → Nat) → Mem → Prop) (a1 a2 a3 a4 : Int32) (σ : Mem) (n : Int64) (v : Value) (am g : Nat → Nat) (τ : Mem) : Prop := (q_L_ofCommit (fun (k1 : Int32) (σ2 : Mem) (n3 : Int64) (v4 : Value) => (q_X8_ofCommit (g 0) (g 2) (fun (r5 : Int32) (τ6 : Mem) => nx σ2 n3 v4 am g τ6) a1 a2 τ)) a1 a2 n v σ)
set_option maxHeartbeats 4000000 in
set_option maxRecDepth 100000 in
theorem cs_18 {p : Program} {e : Env} {s : State} {m : MethodId} {below : List Frame} {meth : Method} {c : Code} (l : Launch) (hflag : l.stackTraces = false) {b L : Nat} {xs : Nat → Int32} (C0 : lw_At p s m meth c b L xs) {D : va_G} {k : Nat → Nat} (hG : GG D k (fun q : Nat => s.heap.size ≤ q) s s.heap) (hN : NC s) {ad am g : Nat → Nat} {o : Nat} {σ τ : Mem} {n : Int64} {v : Value} {x4 a1 a2 a3 a4 : Int32} (hi1 : vp_in (x4 + 1) L) (hi2 : vp_in (x4 + 2) L) (hi3 : vp_in (x4 + 3) L) (hi4 : vp_in (x4 + 4) L) (ha1 : xs (x4 + 1).toNatClampNeg = a1) (ha2 : xs (x4 + 2).toNatClampNeg = a2) (ha3 : xs (x4 + 3).toNatClampNeg = a3) (ha4 : xs (x4 + 4).toNatClampNeg = a4) (hgk : gk g) {cells slots : Nat} (hcl : cells + 100 ≤ 601024) (hsl : slots + 1000 ≤ 7293034) {H : Heap} {locs : List Loc} {ls : Array Slot} {Q : State → Prop} {nx : Mem → Int64 → Value → (Nat → Nat) → (Nat → Nat) → Mem → Prop} (hP : va_P D vwCl ((W5 k ad σ ++ WO o n v) ++ WM k am g τ) H) (hD : va_D (fun q : Nat => s.heap.size ≤ q) ((W5 k ad σ ++ WO o n v) ++ WM k am g τ)) (hS : va_S (fun q : Nat => s.heap.size ≤ q) s.heap H locs) (hl : lv_has ls 7 [(0, .ref b), (1, .ref (ad 0)), (2, .ref (am 0)), (3, .ref o), (4, .int x4)]) (hp : q_case_18 nx a1 a2 a3 a4 σ n v am g τ) (K : ∀ (σ' : Mem) (n' : Int64) (v' : Value) (am' g' : Nat → Nat) (τ' : Mem) (H' : Heap) (locs' : List Loc) (cells' slots' : Nat) (ls' : Array Slot), gk g' → nx σ' n' v' am' g' τ' → va_P D vwCl ((W5 k ad σ' ++ WO o n' v') ++ WM k am' g' τ') H' → va_D (fun q : Nat => s.heap.size ≤ q) ((W5 k ad σ' ++ WO o n' v') ++ WM k am' g' τ') → va_S (fun q : Nat => s.heap.size ≤ q) s.heap H' locs' → cells' ≤ cells + 100 → slots' ≤ slots + 1000 → lv_has ls' 7 [(0, .ref b), (1, .ref (ad 0)), (2, .ref (am' 0)), (3, .ref o), (4, .int x4)] → W p l e room_1 s m #[Value.ref b] below meth c H' locs' cells' slots' Q (F0 m 1248 ls' [])) : W p l e room_1 s m #[Value.ref b] below meth c H locs cells slots Q (F0 m 977 ls []) := by
  obtain ⟨hx, hb, hr, hml, hown, hts0, hX, hbl, hlocks, hgv⟩ := id C0
  have hts : ∀ w ∈ wLAW, w.before #[Value.ref b] s = true := jLAW hts0
  have hA : ∀ q : Nat, s.heap.size ≤ q → (fun q : Nat => s.heap.size ≤ q) q := fun _ h => h
  have hbA : ¬ (fun q : Nat => s.heap.size ≤ q) b := Nat.not_le.mpr hbl
  generalize hAe : (fun q : Nat => s.heap.size ≤ q) = A at hG hP hD hS hA hbA K
  have hC : Cx p m c code 7 s #[Value.ref b] wLAW RL D k A := ⟨⟨hx, hb, hml, hown, hts⟩, hG, hA⟩
  have hK := hG.1
  have hown : s.vm.findClass RL = some m.cls := hown
  have hin_X6 : ∀ w ∈ u_ws RX6 TX6 2, w ∈ wLAW := fun w h => iUB_X6 w h
  unfold q_case_18 at hp
  refine lv_aload_n hx hb dL_law_977 rfl (lv_at hl 1 rfl) ?_
  refine lv_aload_n hx hb dL_law_978 rfl (lv_at hl 0 rfl) ?_
  refine lv_iload hx hb dL_law_979 (lv_at hl 4 rfl) ?_
  refine lv_iconst (v := 1) hx hb dL_law_981 (by decide) ?_
  refine lv_iadd hx hb dL_law_982 ?_
  refine va_sld hx hb hX hbl hbA hS hi1 dL_law_983 ?_
  rw [ha1]
  refine lv_aload_n hx hb dL_law_984 rfl (lv_at hl 0 rfl) ?_
  refine lv_iload hx hb dL_law_985 (lv_at hl 4 rfl) ?_
  refine lv_iconst (v := 2) hx hb dL_law_987 (by decide) ?_
  refine lv_iadd hx hb dL_law_988 ?_
  refine va_sld hx hb hX hbl hbA hS hi2 dL_law_989 ?_
  rw [ha2]
  refine lv_aload_n hx hb dL_law_990 rfl (lv_at hl 3 rfl) ?_
  refine fw_ciSL (S := Mem × Int64 × Value) (wf := fun u => W5 k ad u.1 ++ WO o u.2.1 u.2.2) (wN := fun u => (W5 k ad u.1 ++ WO o u.2.1 u.2.2) ++ WM k am g τ) (As := [.ref (ad 0), .int a1, .int a2, .ref o]) (rest := []) hC hN (c_L_ofCommit l hflag D k ad o hp) (vx_cwSW 4 hts (gT (va_wsS RL 175 yL_ofCommit wq_L_ofCommit) (mS2 B_185 B_186 B_94 B_62)) rfl rfl rfl (by decide +kernel) ⟨Nat.le_of_ble_eq_true rfl, Nat.le_of_ble_eq_true rfl⟩) rfl hl.1 rfl (Nat.le_of_ble_eq_true rfl) dL_law_991 ⟨by show cells + 1 ≤ 601024; omega, by show slots + 6 ≤ 7293034; omega⟩ (P_left hP) (D_left hD) hS (Jn.left hP hD) (fun k1 u9 H locs hP hD hS hp => ?_)
  obtain ⟨σ2, n3, v4⟩ := u9
  have hP : va_P D vwCl ((W5 k ad σ2 ++ WO o n3 v4) ++ WM k am g τ) H := hP
  have hD : va_D A ((W5 k ad σ2 ++ WO o n3 v4) ++ WM k am g τ) := hD
  refine lv_istore (lv' := [(5, .int k1), (0, .ref b), (1, .ref (ad 0)), (2, .ref (am 0)), (3, .ref o), (4, .int x4)]) hx hb dL_law_994 hl (by decide) rfl (fun ls hl => ?_)
  refine lv_aload_n hx hb dL_law_996 rfl (lv_at hl 3 rfl) ?_
  refine lv_aload_n hx hb dL_law_997 rfl (lv_at hl 1 rfl) ?_
  refine lv_iload hx hb dL_law_998 (lv_at hl 5 rfl) ?_
  refine lv_iconst (v := 1) hx hb dL_law_1000 (by decide) ?_
  refine lv_iadd hx hb dL_law_1001 ?_
  refine va_sld hx hb hX hbl hbA hS hi1 dL_law_1002 ?_
  rw [ha1]
  refine lv_aload_n hx hb dL_law_1003 rfl (lv_at hl 1 rfl) ?_
  refine lv_iload hx hb dL_law_1004 (lv_at hl 5 rfl) ?_
  refine lv_iconst (v := 2) hx hb dL_law_1006 (by decide) ?_
  refine lv_iadd hx hb dL_law_1007 ?_
  refine va_sld hx hb hX hbl hbA hS hi2 dL_law_1008 ?_
  rw [ha2]
  refine fw_ciV (wf := fun u : Mem => WM k am g u) (wN := fun u : Mem => (W5 k ad σ2 ++ WO o n3 v4) ++ WM k am g u) (As := [.int a1, .int a2]) (rest := []) hC (c_X8_ofCommit l D k am g hgk.1 hp) (cwV 2 hts (gT (wsV RL 177 RX8 yX8_ofCommit wq_X8_ofCommit) (mV2 B_188 B_189 B_190 (iB_A _ A_601) (iB_A _ A_830))) rfl rfl rfl (by decide +kernel) ⟨Nat.le_of_ble_eq_true rfl, Nat.le_of_ble_eq_true rfl⟩) (va_recv hK (P_right hP) (ci := 12) (q0 := 0) rfl rfl) rfl hl.1 rfl (Nat.le_of_ble_eq_true rfl) dL_law_1009 ⟨by show cells + 1 + 0 ≤ 601024; omega, by show slots + 6 + 0 ≤ 7293034; omega⟩ (P_right hP) (D_right hD) hS (Jn.right hP hD) (fun r5 τ6 H locs hP hD hS hp => ?_)
  have hP : va_P D vwCl ((W5 k ad σ2 ++ WO o n3 v4) ++ WM k am g τ6) H := hP
  have hD : va_D A ((W5 k ad σ2 ++ WO o n3 v4) ++ WM k am g τ6) := hD
  refine lv_istore (lv' := [(6, .int r5), (5, .int k1), (0, .ref b), (1, .ref (ad 0)), (2, .ref (am 0)), (3, .ref o), (4, .int x4)]) hx hb dL_law_1012 hl (by decide) rfl (fun ls hl => ?_)
  refine lv_goto (tgt := 1248) hx hb dL_law_1014 (by decide) ?_
  exact K σ2 n3 v4 am g τ6 _ _ _ _ _ hgk hp hP hD hS (by omega) (by omega) (lv_sub hl [2, 3, 4, 5, 6] rfl)
def q_case_19 (nx : Mem → Int64 → Value → (Nat → Nat) → (Nat → Nat) → Mem → Prop) (a1 a2 a3 a4 : Int32) (σ : Mem) (n : Int64) (v : Value) (am g : Nat → Nat) (τ : Mem) : Prop := (q_L_house (fun (k1 : Int32) (σ2 : Mem) (n3 : Int64) (v4 : Value) => (q_X8_house (g 0) (g 2) (fun (r5 : Int32) (τ6 : Mem) => nx σ2 n3 v4 am g τ6) a1 τ)) a1 n v σ)
set_option maxHeartbeats 4000000 in
set_option maxRecDepth 100000 in
theorem cs_19 {p : Program} {e : Env} {s : State} {m : MethodId} {below : List Frame} {meth : Method} {c : Code} (l : Launch) (hflag : l.stackTraces = false) {b L : Nat} {xs : Nat → Int32} (C0 : lw_At p s m meth c b L xs) {D : va_G} {k : Nat → Nat} (hG : GG D k (fun q : Nat => s.heap.size ≤ q) s s.heap) (hN : NC s) {ad am g : Nat → Nat} {o : Nat} {σ τ : Mem} {n : Int64} {v : Value} {x4 a1 a2 a3 a4 : Int32} (hi1 : vp_in (x4 + 1) L) (hi2 : vp_in (x4 + 2) L) (hi3 : vp_in (x4 + 3) L) (hi4 : vp_in (x4 + 4) L) (ha1 : xs (x4 + 1).toNatClampNeg = a1) (ha2 : xs (x4 + 2).toNatClampNeg = a2) (ha3 : xs (x4 + 3).toNatClampNeg = a3) (ha4 : xs (x4 + 4).toNatClampNeg = a4) (hgk : gk g) {cells slots : Nat} (hcl : cells + 100 ≤ 601024) (hsl : slots + 1000 ≤ 7293034) {H : Heap} {locs : List Loc} {ls : Array Slot} {Q : State → Prop} {nx : Mem → Int64 → Value → (Nat → Nat) → (Nat → Nat) → Mem → Prop} (hP : va_P D vwCl ((W5 k ad σ ++ WO o n v) ++ WM k am g τ) H) (hD : va_D (fun q : Nat => s.heap.size ≤ q) ((W5 k ad σ ++ WO o n v) ++ WM k am g τ)) (hS : va_S (fun q : Nat => s.heap.size ≤ q) s.heap H locs) (hl : lv_has ls 7 [(0, .ref b), (1, .ref (ad 0)), (2, .ref (am 0)), (3, .ref o), (4, .int x4)]) (hp : q_case_19 nx a1 a2 a3 a4 σ n v am g τ) (K : ∀ (σ' : Mem) (n' : Int64) (v' : Value) (am' g' : Nat → Nat) (τ' : Mem) (H' : Heap) (locs' : List Loc) (cells' slots' : Nat) (ls' : Array Slot), gk g' → nx σ' n' v' am' g' τ' → va_P D vwCl ((W5 k ad σ' ++ WO o n' v') ++ WM k am' g' τ') H' → va_D (fun q : Nat => s.heap.size ≤ q) ((W5 k ad σ' ++ WO o n' v') ++ WM k am' g' τ') → va_S (fun q : Nat => s.heap.size ≤ q) s.heap H' locs' → cells' ≤ cells + 100 → slots' ≤ slots + 1000 → lv_has ls' 7 [(0, .ref b), (1, .ref (ad 0)), (2, .ref (am' 0)), (3, .ref o), (4, .int x4)] → W p l e room_1 s m #[Value.ref b] below meth c H' locs' cells' slots' Q (F0 m 1248 ls' [])) : W p l e room_1 s m #[Value.ref b] below meth c H locs cells slots Q (F0 m 1017 ls []) := by
  obtain ⟨hx, hb, hr, hml, hown, hts0, hX, hbl, hlocks, hgv⟩ := id C0
  have hts : ∀ w ∈ wLAW, w.before #[Value.ref b] s = true := jLAW hts0
  have hA : ∀ q : Nat, s.heap.size ≤ q → (fun q : Nat => s.heap.size ≤ q) q := fun _ h => h
  have hbA : ¬ (fun q : Nat => s.heap.size ≤ q) b := Nat.not_le.mpr hbl
  generalize hAe : (fun q : Nat => s.heap.size ≤ q) = A at hG hP hD hS hA hbA K
  have hC : Cx p m c code 7 s #[Value.ref b] wLAW RL D k A := ⟨⟨hx, hb, hml, hown, hts⟩, hG, hA⟩
  have hK := hG.1
  have hown : s.vm.findClass RL = some m.cls := hown
  have hin_X6 : ∀ w ∈ u_ws RX6 TX6 2, w ∈ wLAW := fun w h => iUB_X6 w h
  unfold q_case_19 at hp
  refine lv_aload_n hx hb dL_law_1017 rfl (lv_at hl 1 rfl) ?_
  refine lv_aload_n hx hb dL_law_1018 rfl (lv_at hl 0 rfl) ?_
  refine lv_iload hx hb dL_law_1019 (lv_at hl 4 rfl) ?_
  refine lv_iconst (v := 1) hx hb dL_law_1021 (by decide) ?_
  refine lv_iadd hx hb dL_law_1022 ?_
  refine va_sld hx hb hX hbl hbA hS hi1 dL_law_1023 ?_
  rw [ha1]
  refine lv_aload_n hx hb dL_law_1024 rfl (lv_at hl 3 rfl) ?_
  refine fw_ciSL (S := Mem × Int64 × Value) (wf := fun u => W5 k ad u.1 ++ WO o u.2.1 u.2.2) (wN := fun u => (W5 k ad u.1 ++ WO o u.2.1 u.2.2) ++ WM k am g τ) (As := [.ref (ad 0), .int a1, .ref o]) (rest := []) hC hN (c_L_house l hflag D k ad o hp) (vx_cwSW 3 hts (gT (va_wsS RL 178 yL_house wq_L_house) (mS2 B_191 B_192 B_94 B_64)) rfl rfl rfl (by decide +kernel) ⟨Nat.le_of_ble_eq_true rfl, Nat.le_of_ble_eq_true rfl⟩) rfl hl.1 rfl (Nat.le_of_ble_eq_true rfl) dL_law_1025 ⟨by show cells + 1 ≤ 601024; omega, by show slots + 6 ≤ 7293034; omega⟩ (P_left hP) (D_left hD) hS (Jn.left hP hD) (fun k1 u9 H locs hP hD hS hp => ?_)
  obtain ⟨σ2, n3, v4⟩ := u9
  have hP : va_P D vwCl ((W5 k ad σ2 ++ WO o n3 v4) ++ WM k am g τ) H := hP
  have hD : va_D A ((W5 k ad σ2 ++ WO o n3 v4) ++ WM k am g τ) := hD
  refine lv_istore (lv' := [(5, .int k1), (0, .ref b), (1, .ref (ad 0)), (2, .ref (am 0)), (3, .ref o), (4, .int x4)]) hx hb dL_law_1028 hl (by decide) rfl (fun ls hl => ?_)
  refine lv_aload_n hx hb dL_law_1030 rfl (lv_at hl 3 rfl) ?_
  refine lv_aload_n hx hb dL_law_1031 rfl (lv_at hl 1 rfl) ?_
  refine lv_iload hx hb dL_law_1032 (lv_at hl 5 rfl) ?_
  refine lv_iconst (v := 1) hx hb dL_law_1034 (by decide) ?_
  refine lv_iadd hx hb dL_law_1035 ?_
  refine va_sld hx hb hX hbl hbA hS hi1 dL_law_1036 ?_
  rw [ha1]
  refine fw_ciV (wf := fun u : Mem => WM k am g u) (wN := fun u : Mem => (W5 k ad σ2 ++ WO o n3 v4) ++ WM k am g u) (As := [.int a1]) (rest := []) hC (c_X8_house l D k am g hgk.1 hp) (cwV 1 hts (gT (wsV RL 180 RX8 yX8_house wq_X8_house) (mV2 B_193 B_194 B_195 (iB_A _ A_601) (iB_A _ A_864))) rfl rfl rfl (by decide +kernel) ⟨Nat.le_of_ble_eq_true rfl, Nat.le_of_ble_eq_true rfl⟩) (va_recv hK (P_right hP) (ci := 12) (q0 := 0) rfl rfl) rfl hl.1 rfl (Nat.le_of_ble_eq_true rfl) dL_law_1037 ⟨by show cells + 1 + 1 ≤ 601024; omega, by show slots + 6 + 4 ≤ 7293034; omega⟩ (P_right hP) (D_right hD) hS (Jn.right hP hD) (fun r5 τ6 H locs hP hD hS hp => ?_)
  have hP : va_P D vwCl ((W5 k ad σ2 ++ WO o n3 v4) ++ WM k am g τ6) H := hP
  have hD : va_D A ((W5 k ad σ2 ++ WO o n3 v4) ++ WM k am g τ6) := hD
  refine lv_istore (lv' := [(6, .int r5), (5, .int k1), (0, .ref b), (1, .ref (ad 0)), (2, .ref (am 0)), (3, .ref o), (4, .int x4)]) hx hb dL_law_1040 hl (by decide) rfl (fun ls hl => ?_)
  refine lv_goto (tgt := 1248) hx hb dL_law_1042 (by decide) ?_
  exact K σ2 n3 v4 am g τ6 _ _ _ _ _ hgk hp hP hD hS (by omega) (by omega) (lv_sub hl [2, 3, 4, 5, 6] rfl)
def q_case_20 (nx : Mem → Int64 → Value → (Nat → Nat) → (Nat → Nat) → Mem → Prop) (a1 a2 a3 a4 : Int32) (σ : Mem) (n : Int64) (v : Value) (am g : Nat → Nat) (τ : Mem) : Prop := (q_L_value (fun (k1 : Int32) (σ2 : Mem) (n3 : Int64) (v4 : Value) => (q_X8_value (g 0) (g 2) (fun (r5 : Nat) (τ6 : Mem) => nx σ2 n3 v4 am g τ6) a1 τ)) a1 n v σ)
set_option maxHeartbeats 4000000 in
set_option maxRecDepth 100000 in
theorem cs_20 {p : Program} {e : Env} {s : State} {m : MethodId} {below : List Frame} {meth : Method} {c : Code} (l : Launch) (hflag : l.stackTraces = false) {b L : Nat} {xs : Nat → Int32} (C0 : lw_At p s m meth c b L xs) {D : va_G} {k : Nat → Nat} (hG : GG D k (fun q : Nat => s.heap.size ≤ q) s s.heap) (hN : NC s) {ad am g : Nat → Nat} {o : Nat} {σ τ : Mem} {n : Int64} {v : Value} {x4 a1 a2 a3 a4 : Int32} (hi1 : vp_in (x4 + 1) L) (hi2 : vp_in (x4 + 2) L) (hi3 : vp_in (x4 + 3) L) (hi4 : vp_in (x4 + 4) L) (ha1 : xs (x4 + 1).toNatClampNeg = a1) (ha2 : xs (x4 + 2).toNatClampNeg = a2) (ha3 : xs (x4 + 3).toNatClampNeg = a3) (ha4 : xs (x4 + 4).toNatClampNeg = a4) (hgk : gk g) {cells slots : Nat} (hcl : cells + 100 ≤ 601024) (hsl : slots + 1000 ≤ 7293034) {H : Heap} {locs : List Loc} {ls : Array Slot} {Q : State → Prop} {nx : Mem → Int64 → Value → (Nat → Nat) → (Nat → Nat) → Mem → Prop} (hP : va_P D vwCl ((W5 k ad σ ++ WO o n v) ++ WM k am g τ) H) (hD : va_D (fun q : Nat => s.heap.size ≤ q) ((W5 k ad σ ++ WO o n v) ++ WM k am g τ)) (hS : va_S (fun q : Nat => s.heap.size ≤ q) s.heap H locs) (hl : lv_has ls 7 [(0, .ref b), (1, .ref (ad 0)), (2, .ref (am 0)), (3, .ref o), (4, .int x4)]) (hp : q_case_20 nx a1 a2 a3 a4 σ n v am g τ) (K : ∀ (σ' : Mem) (n' : Int64) (v' : Value) (am' g' : Nat → Nat) (τ' : Mem) (H' : Heap) (locs' : List Loc) (cells' slots' : Nat) (ls' : Array Slot), gk g' → nx σ' n' v' am' g' τ' → va_P D vwCl ((W5 k ad σ' ++ WO o n' v') ++ WM k am' g' τ') H' → va_D (fun q : Nat => s.heap.size ≤ q) ((W5 k ad σ' ++ WO o n' v') ++ WM k am' g' τ') → va_S (fun q : Nat => s.heap.size ≤ q) s.heap H' locs' → cells' ≤ cells + 100 → slots' ≤ slots + 1000 → lv_has ls' 7 [(0, .ref b), (1, .ref (ad 0)), (2, .ref (am' 0)), (3, .ref o), (4, .int x4)] → W p l e room_1 s m #[Value.ref b] below meth c H' locs' cells' slots' Q (F0 m 1248 ls' [])) : W p l e room_1 s m #[Value.ref b] below meth c H locs cells slots Q (F0 m 1045 ls []) := by
  obtain ⟨hx, hb, hr, hml, hown, hts0, hX, hbl, hlocks, hgv⟩ := id C0
  have hts : ∀ w ∈ wLAW, w.before #[Value.ref b] s = true := jLAW hts0
  have hA : ∀ q : Nat, s.heap.size ≤ q → (fun q : Nat => s.heap.size ≤ q) q := fun _ h => h
  have hbA : ¬ (fun q : Nat => s.heap.size ≤ q) b := Nat.not_le.mpr hbl
  generalize hAe : (fun q : Nat => s.heap.size ≤ q) = A at hG hP hD hS hA hbA K
  have hC : Cx p m c code 7 s #[Value.ref b] wLAW RL D k A := ⟨⟨hx, hb, hml, hown, hts⟩, hG, hA⟩
  have hK := hG.1
  have hown : s.vm.findClass RL = some m.cls := hown
  have hin_X6 : ∀ w ∈ u_ws RX6 TX6 2, w ∈ wLAW := fun w h => iUB_X6 w h
  unfold q_case_20 at hp
  refine lv_aload_n hx hb dL_law_1045 rfl (lv_at hl 1 rfl) ?_
  refine lv_aload_n hx hb dL_law_1046 rfl (lv_at hl 0 rfl) ?_
  refine lv_iload hx hb dL_law_1047 (lv_at hl 4 rfl) ?_
  refine lv_iconst (v := 1) hx hb dL_law_1049 (by decide) ?_
  refine lv_iadd hx hb dL_law_1050 ?_
  refine va_sld hx hb hX hbl hbA hS hi1 dL_law_1051 ?_
  rw [ha1]
  refine lv_aload_n hx hb dL_law_1052 rfl (lv_at hl 3 rfl) ?_
  refine fw_ciSL (S := Mem × Int64 × Value) (wf := fun u => W5 k ad u.1 ++ WO o u.2.1 u.2.2) (wN := fun u => (W5 k ad u.1 ++ WO o u.2.1 u.2.2) ++ WM k am g τ) (As := [.ref (ad 0), .int a1, .ref o]) (rest := []) hC hN (c_L_value l hflag D k ad o hp) (vx_cwSW 3 hts (gT (va_wsS RL 181 yL_value wq_L_value) (mS2 B_196 B_197 B_94 B_68)) rfl rfl rfl (by decide +kernel) ⟨Nat.le_of_ble_eq_true rfl, Nat.le_of_ble_eq_true rfl⟩) rfl hl.1 rfl (Nat.le_of_ble_eq_true rfl) dL_law_1053 ⟨by show cells + 4 ≤ 601024; omega, by show slots + 88 ≤ 7293034; omega⟩ (P_left hP) (D_left hD) hS (Jn.left hP hD) (fun k1 u9 H locs hP hD hS hp => ?_)
  obtain ⟨σ2, n3, v4⟩ := u9
  have hP : va_P D vwCl ((W5 k ad σ2 ++ WO o n3 v4) ++ WM k am g τ) H := hP
  have hD : va_D A ((W5 k ad σ2 ++ WO o n3 v4) ++ WM k am g τ) := hD
  refine lv_istore (lv' := [(5, .int k1), (0, .ref b), (1, .ref (ad 0)), (2, .ref (am 0)), (3, .ref o), (4, .int x4)]) hx hb dL_law_1056 hl (by decide) rfl (fun ls hl => ?_)
  refine lv_aload_n hx hb dL_law_1058 rfl (lv_at hl 3 rfl) ?_
  refine lv_aload_n hx hb dL_law_1059 rfl (lv_at hl 1 rfl) ?_
  refine lv_iload hx hb dL_law_1060 (lv_at hl 5 rfl) ?_
  refine lv_iconst (v := 1) hx hb dL_law_1062 (by decide) ?_
  refine lv_iadd hx hb dL_law_1063 ?_
  refine va_sld hx hb hX hbl hbA hS hi1 dL_law_1064 ?_
  rw [ha1]
  refine fw_crV (wf := fun u : Mem => WM k am g u) (wN := fun u : Mem => (W5 k ad σ2 ++ WO o n3 v4) ++ WM k am g u) (As := [.int a1]) (rest := []) hC (c_X8_value l D k am g hgk.1 hp) (cwV 1 hts (gT (wsV RL 183 RX8 yX8_value wq_X8_value) (mV2 B_198 B_199 B_200 (iB_A _ A_601) (iB_A _ A_922))) rfl rfl rfl (by decide +kernel) ⟨Nat.le_of_ble_eq_true rfl, Nat.le_of_ble_eq_true rfl⟩) (va_recv hK (P_right hP) (ci := 12) (q0 := 0) rfl rfl) rfl hl.1 rfl (Nat.le_of_ble_eq_true rfl) dL_law_1065 ⟨by show cells + 4 + 4 ≤ 601024; omega, by show slots + 88 + 92 ≤ 7293034; omega⟩ (P_right hP) (D_right hD) hS (Jn.right hP hD) (fun r5 τ6 H locs hP hD hS hp => ?_)
  have hP : va_P D vwCl ((W5 k ad σ2 ++ WO o n3 v4) ++ WM k am g τ6) H := hP
  have hD : va_D A ((W5 k ad σ2 ++ WO o n3 v4) ++ WM k am g τ6) := hD
  refine lv_astore (lv' := [(6, .ref r5), (5, .int k1), (0, .ref b), (1, .ref (ad 0)), (2, .ref (am 0)), (3, .ref o), (4, .int x4)]) hx hb dL_law_1068 hl (by decide) rfl (fun ls hl => ?_)
  refine lv_goto (tgt := 1248) hx hb dL_law_1070 (by decide) ?_
  exact K σ2 n3 v4 am g τ6 _ _ _ _ _ hgk hp hP hD hS (by omega) (by omega) (lv_sub hl [2, 3, 4, 5, 6] rfl)
def q_case_21 (nx : Mem → Int64 → Value → (Nat → Nat) → (Nat → Nat) → Mem → Prop) (a1 a2 a3 a4 : Int32) (σ : Mem) (n : Int64) (v : Value) (am g : Nat → Nat) (τ : Mem) : Prop := (q_L_reason (fun (k1 : Int32) (σ2 : Mem) (n3 : Int64) (v4 : Value) => (q_X8_reason (g 0) (g 2) (fun (r5 : Int32) (τ6 : Mem) => nx σ2 n3 v4 am g τ6) a1 τ)) a1 n v σ)
set_option maxHeartbeats 4000000 in
set_option maxRecDepth 100000 in
theorem cs_21 {p : Program} {e : Env} {s : State} {m : MethodId} {below : List Frame} {meth : Method} {c : Code} (l : Launch) (hflag : l.stackTraces = false) {b L : Nat} {xs : Nat → Int32} (C0 : lw_At p s m meth c b L xs) {D : va_G} {k : Nat → Nat} (hG : GG D k (fun q : Nat => s.heap.size ≤ q) s s.heap) (hN : NC s) {ad am g : Nat → Nat} {o : Nat} {σ τ : Mem} {n : Int64} {v : Value} {x4 a1 a2 a3 a4 : Int32} (hi1 : vp_in (x4 + 1) L) (hi2 : vp_in (x4 + 2) L) (hi3 : vp_in (x4 + 3) L) (hi4 : vp_in (x4 + 4) L) (ha1 : xs (x4 + 1).toNatClampNeg = a1) (ha2 : xs (x4 + 2).toNatClampNeg = a2) (ha3 : xs (x4 + 3).toNatClampNeg = a3) (ha4 : xs (x4 + 4).toNatClampNeg = a4) (hgk : gk g) {cells slots : Nat} (hcl : cells + 100 ≤ 601024) (hsl : slots + 1000 ≤ 7293034) {H : Heap} {locs : List Loc} {ls : Array Slot} {Q : State → Prop} {nx : Mem → Int64 → Value → (Nat → Nat) → (Nat → Nat) → Mem → Prop} (hP : va_P D vwCl ((W5 k ad σ ++ WO o n v) ++ WM k am g τ) H) (hD : va_D (fun q : Nat => s.heap.size ≤ q) ((W5 k ad σ ++ WO o n v) ++ WM k am g τ)) (hS : va_S (fun q : Nat => s.heap.size ≤ q) s.heap H locs) (hl : lv_has ls 7 [(0, .ref b), (1, .ref (ad 0)), (2, .ref (am 0)), (3, .ref o), (4, .int x4)]) (hp : q_case_21 nx a1 a2 a3 a4 σ n v am g τ) (K : ∀ (σ' : Mem) (n' : Int64) (v' : Value) (am' g' : Nat → Nat) (τ' : Mem) (H' : Heap) (locs' : List Loc) (cells' slots' : Nat) (ls' : Array Slot), gk g' → nx σ' n' v' am' g' τ' → va_P D vwCl ((W5 k ad σ' ++ WO o n' v') ++ WM k am' g' τ') H' → va_D (fun q : Nat => s.heap.size ≤ q) ((W5 k ad σ' ++ WO o n' v') ++ WM k am' g' τ') → va_S (fun q : Nat => s.heap.size ≤ q) s.heap H' locs' → cells' ≤ cells + 100 → slots' ≤ slots + 1000 → lv_has ls' 7 [(0, .ref b), (1, .ref (ad 0)), (2, .ref (am' 0)), (3, .ref o), (4, .int x4)] → W p l e room_1 s m #[Value.ref b] below meth c H' locs' cells' slots' Q (F0 m 1248 ls' [])) : W p l e room_1 s m #[Value.ref b] below meth c H locs cells slots Q (F0 m 1073 ls []) := by
  obtain ⟨hx, hb, hr, hml, hown, hts0, hX, hbl, hlocks, hgv⟩ := id C0
  have hts : ∀ w ∈ wLAW, w.before #[Value.ref b] s = true := jLAW hts0
  have hA : ∀ q : Nat, s.heap.size ≤ q → (fun q : Nat => s.heap.size ≤ q) q := fun _ h => h
  have hbA : ¬ (fun q : Nat => s.heap.size ≤ q) b := Nat.not_le.mpr hbl
  generalize hAe : (fun q : Nat => s.heap.size ≤ q) = A at hG hP hD hS hA hbA K
  have hC : Cx p m c code 7 s #[Value.ref b] wLAW RL D k A := ⟨⟨hx, hb, hml, hown, hts⟩, hG, hA⟩
  have hK := hG.1
  have hown : s.vm.findClass RL = some m.cls := hown
  have hin_X6 : ∀ w ∈ u_ws RX6 TX6 2, w ∈ wLAW := fun w h => iUB_X6 w h
  unfold q_case_21 at hp
  refine lv_aload_n hx hb dL_law_1073 rfl (lv_at hl 1 rfl) ?_
  refine lv_aload_n hx hb dL_law_1074 rfl (lv_at hl 0 rfl) ?_
  refine lv_iload hx hb dL_law_1075 (lv_at hl 4 rfl) ?_
  refine lv_iconst (v := 1) hx hb dL_law_1077 (by decide) ?_
  refine lv_iadd hx hb dL_law_1078 ?_
  refine va_sld hx hb hX hbl hbA hS hi1 dL_law_1079 ?_
  rw [ha1]
  refine lv_aload_n hx hb dL_law_1080 rfl (lv_at hl 3 rfl) ?_
  refine fw_ciSL (S := Mem × Int64 × Value) (wf := fun u => W5 k ad u.1 ++ WO o u.2.1 u.2.2) (wN := fun u => (W5 k ad u.1 ++ WO o u.2.1 u.2.2) ++ WM k am g τ) (As := [.ref (ad 0), .int a1, .ref o]) (rest := []) hC hN (c_L_reason l hflag D k ad o hp) (vx_cwSW 3 hts (gT (va_wsS RL 184 yL_reason wq_L_reason) (mS2 B_201 B_202 B_94 B_70)) rfl rfl rfl (by decide +kernel) ⟨Nat.le_of_ble_eq_true rfl, Nat.le_of_ble_eq_true rfl⟩) rfl hl.1 rfl (Nat.le_of_ble_eq_true rfl) dL_law_1081 ⟨by show cells + 1 ≤ 601024; omega, by show slots + 6 ≤ 7293034; omega⟩ (P_left hP) (D_left hD) hS (Jn.left hP hD) (fun k1 u9 H locs hP hD hS hp => ?_)
  obtain ⟨σ2, n3, v4⟩ := u9
  have hP : va_P D vwCl ((W5 k ad σ2 ++ WO o n3 v4) ++ WM k am g τ) H := hP
  have hD : va_D A ((W5 k ad σ2 ++ WO o n3 v4) ++ WM k am g τ) := hD
  refine lv_istore (lv' := [(5, .int k1), (0, .ref b), (1, .ref (ad 0)), (2, .ref (am 0)), (3, .ref o), (4, .int x4)]) hx hb dL_law_1084 hl (by decide) rfl (fun ls hl => ?_)
  refine lv_aload_n hx hb dL_law_1086 rfl (lv_at hl 3 rfl) ?_
  refine lv_aload_n hx hb dL_law_1087 rfl (lv_at hl 1 rfl) ?_
  refine lv_iload hx hb dL_law_1088 (lv_at hl 5 rfl) ?_
  refine lv_iconst (v := 1) hx hb dL_law_1090 (by decide) ?_
  refine lv_iadd hx hb dL_law_1091 ?_
  refine va_sld hx hb hX hbl hbA hS hi1 dL_law_1092 ?_
  rw [ha1]
  refine fw_ciV (wf := fun u : Mem => WM k am g u) (wN := fun u : Mem => (W5 k ad σ2 ++ WO o n3 v4) ++ WM k am g u) (As := [.int a1]) (rest := []) hC (c_X8_reason l D k am g hgk.1 hp) (cwV 1 hts (gT (wsV RL 186 RX8 yX8_reason wq_X8_reason) (mV2 B_203 B_204 B_205 (iB_A _ A_601) (iB_A _ A_923))) rfl rfl rfl (by decide +kernel) ⟨Nat.le_of_ble_eq_true rfl, Nat.le_of_ble_eq_true rfl⟩) (va_recv hK (P_right hP) (ci := 12) (q0 := 0) rfl rfl) rfl hl.1 rfl (Nat.le_of_ble_eq_true rfl) dL_law_1093 ⟨by show cells + 1 + 0 ≤ 601024; omega, by show slots + 6 + 0 ≤ 7293034; omega⟩ (P_right hP) (D_right hD) hS (Jn.right hP hD) (fun r5 τ6 H locs hP hD hS hp => ?_)
  have hP : va_P D vwCl ((W5 k ad σ2 ++ WO o n3 v4) ++ WM k am g τ6) H := hP
  have hD : va_D A ((W5 k ad σ2 ++ WO o n3 v4) ++ WM k am g τ6) := hD
  refine lv_istore (lv' := [(6, .int r5), (5, .int k1), (0, .ref b), (1, .ref (ad 0)), (2, .ref (am 0)), (3, .ref o), (4, .int x4)]) hx hb dL_law_1096 hl (by decide) rfl (fun ls hl => ?_)
  refine lv_goto (tgt := 1248) hx hb dL_law_1098 (by decide) ?_
  exact K σ2 n3 v4 am g τ6 _ _ _ _ _ hgk hp hP hD hS (by omega) (by omega) (lv_sub hl [2, 3, 4, 5, 6] rfl)
def q_case_22 (nx : Mem → Int64 → Value → (Nat → Nat) → (Nat → Nat) → Mem → Prop) (a1 a2 a3 a4 : Int32) (σ : Mem) (n : Int64) (v : Value) (am g : Nat → Nat) (τ : Mem) : Prop := (q_L_met (fun (k1 : Int32) (σ2 : Mem) (n3 : Int64) (v4 : Value) => (q_X8_met (g 0) (g 2) (fun (r5 : Int32) (τ6 : Mem) => nx σ2 n3 v4 am g τ6) a1 a2 τ)) a1 a2 n v σ)
set_option maxHeartbeats 4000000 in
set_option maxRecDepth 100000 in
theorem cs_22 {p : Program} {e : Env} {s : State} {m : MethodId} {below : List Frame} {meth : Method} {c : Code} (l : Launch) (hflag : l.stackTraces = false) {b L : Nat} {xs : Nat → Int32} (C0 : lw_At p s m meth c b L xs) {D : va_G} {k : Nat → Nat} (hG : GG D k (fun q : Nat => s.heap.size ≤ q) s s.heap) (hN : NC s) {ad am g : Nat → Nat} {o : Nat} {σ τ : Mem} {n : Int64} {v : Value} {x4 a1 a2 a3 a4 : Int32} (hi1 : vp_in (x4 + 1) L) (hi2 : vp_in (x4 + 2) L) (hi3 : vp_in (x4 + 3) L) (hi4 : vp_in (x4 + 4) L) (ha1 : xs (x4 + 1).toNatClampNeg = a1) (ha2 : xs (x4 + 2).toNatClampNeg = a2) (ha3 : xs (x4 + 3).toNatClampNeg = a3) (ha4 : xs (x4 + 4).toNatClampNeg = a4) (hgk : gk g) {cells slots : Nat} (hcl : cells + 100 ≤ 601024) (hsl : slots + 1000 ≤ 7293034) {H : Heap} {locs : List Loc} {ls : Array Slot} {Q : State → Prop} {nx : Mem → Int64 → Value → (Nat → Nat) → (Nat → Nat) → Mem → Prop} (hP : va_P D vwCl ((W5 k ad σ ++ WO o n v) ++ WM k am g τ) H) (hD : va_D (fun q : Nat => s.heap.size ≤ q) ((W5 k ad σ ++ WO o n v) ++ WM k am g τ)) (hS : va_S (fun q : Nat => s.heap.size ≤ q) s.heap H locs) (hl : lv_has ls 7 [(0, .ref b), (1, .ref (ad 0)), (2, .ref (am 0)), (3, .ref o), (4, .int x4)]) (hp : q_case_22 nx a1 a2 a3 a4 σ n v am g τ) (K : ∀ (σ' : Mem) (n' : Int64) (v' : Value) (am' g' : Nat → Nat) (τ' : Mem) (H' : Heap) (locs' : List Loc) (cells' slots' : Nat) (ls' : Array Slot), gk g' → nx σ' n' v' am' g' τ' → va_P D vwCl ((W5 k ad σ' ++ WO o n' v') ++ WM k am' g' τ') H' → va_D (fun q : Nat => s.heap.size ≤ q) ((W5 k ad σ' ++ WO o n' v') ++ WM k am' g' τ') → va_S (fun q : Nat => s.heap.size ≤ q) s.heap H' locs' → cells' ≤ cells + 100 → slots' ≤ slots + 1000 → lv_has ls' 7 [(0, .ref b), (1, .ref (ad 0)), (2, .ref (am' 0)), (3, .ref o), (4, .int x4)] → W p l e room_1 s m #[Value.ref b] below meth c H' locs' cells' slots' Q (F0 m 1248 ls' [])) : W p l e room_1 s m #[Value.ref b] below meth c H locs cells slots Q (F0 m 1101 ls []) := by
  obtain ⟨hx, hb, hr, hml, hown, hts0, hX, hbl, hlocks, hgv⟩ := id C0
  have hts : ∀ w ∈ wLAW, w.before #[Value.ref b] s = true := jLAW hts0
  have hA : ∀ q : Nat, s.heap.size ≤ q → (fun q : Nat => s.heap.size ≤ q) q := fun _ h => h
  have hbA : ¬ (fun q : Nat => s.heap.size ≤ q) b := Nat.not_le.mpr hbl
  generalize hAe : (fun q : Nat => s.heap.size ≤ q) = A at hG hP hD hS hA hbA K
  have hC : Cx p m c code 7 s #[Value.ref b] wLAW RL D k A := ⟨⟨hx, hb, hml, hown, hts⟩, hG, hA⟩
  have hK := hG.1
  have hown : s.vm.findClass RL = some m.cls := hown
  have hin_X6 : ∀ w ∈ u_ws RX6 TX6 2, w ∈ wLAW := fun w h => iUB_X6 w h
  unfold q_case_22 at hp
  refine lv_aload_n hx hb dL_law_1101 rfl (lv_at hl 1 rfl) ?_
  refine lv_aload_n hx hb dL_law_1102 rfl (lv_at hl 0 rfl) ?_
  refine lv_iload hx hb dL_law_1103 (lv_at hl 4 rfl) ?_
  refine lv_iconst (v := 1) hx hb dL_law_1105 (by decide) ?_
  refine lv_iadd hx hb dL_law_1106 ?_
  refine va_sld hx hb hX hbl hbA hS hi1 dL_law_1107 ?_
  rw [ha1]
  refine lv_aload_n hx hb dL_law_1108 rfl (lv_at hl 0 rfl) ?_
  refine lv_iload hx hb dL_law_1109 (lv_at hl 4 rfl) ?_
  refine lv_iconst (v := 2) hx hb dL_law_1111 (by decide) ?_
  refine lv_iadd hx hb dL_law_1112 ?_
  refine va_sld hx hb hX hbl hbA hS hi2 dL_law_1113 ?_
  rw [ha2]
  refine lv_aload_n hx hb dL_law_1114 rfl (lv_at hl 3 rfl) ?_
  refine fw_ciSL (S := Mem × Int64 × Value) (wf := fun u => W5 k ad u.1 ++ WO o u.2.1 u.2.2) (wN := fun u => (W5 k ad u.1 ++ WO o u.2.1 u.2.2) ++ WM k am g τ) (As := [.ref (ad 0), .int a1, .int a2, .ref o]) (rest := []) hC hN (c_L_met l hflag D k ad o hp) (vx_cwSW 4 hts (gT (va_wsS RL 187 yL_met wq_L_met) (mS2 B_206 B_207 B_94 B_74)) rfl rfl rfl (by decide +kernel) ⟨Nat.le_of_ble_eq_true rfl, Nat.le_of_ble_eq_true rfl⟩) rfl hl.1 rfl (Nat.le_of_ble_eq_true rfl) dL_law_1115 ⟨by show cells + 1 ≤ 601024; omega, by show slots + 6 ≤ 7293034; omega⟩ (P_left hP) (D_left hD) hS (Jn.left hP hD) (fun k1 u9 H locs hP hD hS hp => ?_)
  obtain ⟨σ2, n3, v4⟩ := u9
  have hP : va_P D vwCl ((W5 k ad σ2 ++ WO o n3 v4) ++ WM k am g τ) H := hP
  have hD : va_D A ((W5 k ad σ2 ++ WO o n3 v4) ++ WM k am g τ) := hD
  refine lv_istore (lv' := [(5, .int k1), (0, .ref b), (1, .ref (ad 0)), (2, .ref (am 0)), (3, .ref o), (4, .int x4)]) hx hb dL_law_1118 hl (by decide) rfl (fun ls hl => ?_)
  refine lv_aload_n hx hb dL_law_1120 rfl (lv_at hl 3 rfl) ?_
  refine lv_aload_n hx hb dL_law_1121 rfl (lv_at hl 1 rfl) ?_
  refine lv_iload hx hb dL_law_1122 (lv_at hl 5 rfl) ?_
  refine lv_iconst (v := 1) hx hb dL_law_1124 (by decide) ?_
  refine lv_iadd hx hb dL_law_1125 ?_
  refine va_sld hx hb hX hbl hbA hS hi1 dL_law_1126 ?_
  rw [ha1]
  refine lv_aload_n hx hb dL_law_1127 rfl (lv_at hl 1 rfl) ?_
  refine lv_iload hx hb dL_law_1128 (lv_at hl 5 rfl) ?_
  refine lv_iconst (v := 2) hx hb dL_law_1130 (by decide) ?_
  refine lv_iadd hx hb dL_law_1131 ?_
  refine va_sld hx hb hX hbl hbA hS hi2 dL_law_1132 ?_
  rw [ha2]
  refine fw_ciV (wf := fun u : Mem => WM k am g u) (wN := fun u : Mem => (W5 k ad σ2 ++ WO o n3 v4) ++ WM k am g u) (As := [.int a1, .int a2]) (rest := []) hC (c_X8_met l D k am g hgk.1 hp) (cwV 2 hts (gT (wsV RL 189 RX8 yX8_met wq_X8_met) (mV2 B_208 B_209 B_210 (iB_A _ A_601) (iB_A _ A_924))) rfl rfl rfl (by decide +kernel) ⟨Nat.le_of_ble_eq_true rfl, Nat.le_of_ble_eq_true rfl⟩) (va_recv hK (P_right hP) (ci := 12) (q0 := 0) rfl rfl) rfl hl.1 rfl (Nat.le_of_ble_eq_true rfl) dL_law_1133 ⟨by show cells + 1 + 0 ≤ 601024; omega, by show slots + 6 + 0 ≤ 7293034; omega⟩ (P_right hP) (D_right hD) hS (Jn.right hP hD) (fun r5 τ6 H locs hP hD hS hp => ?_)
  have hP : va_P D vwCl ((W5 k ad σ2 ++ WO o n3 v4) ++ WM k am g τ6) H := hP
  have hD : va_D A ((W5 k ad σ2 ++ WO o n3 v4) ++ WM k am g τ6) := hD
  refine lv_istore (lv' := [(6, .int r5), (5, .int k1), (0, .ref b), (1, .ref (ad 0)), (2, .ref (am 0)), (3, .ref o), (4, .int x4)]) hx hb dL_law_1136 hl (by decide) rfl (fun ls hl => ?_)
  refine lv_goto (tgt := 1248) hx hb dL_law_1138 (by decide) ?_
  exact K σ2 n3 v4 am g τ6 _ _ _ _ _ hgk hp hP hD hS (by omega) (by omega) (lv_sub hl [2, 3, 4, 5, 6] rfl)
def q_case_23 (nx : Mem → Int64 → Value → (Nat → Nat) → (Nat → Nat) → Mem → Prop) (a1 a2 a3 a4 : Int32) (σ : Mem) (n : Int64) (v : Value) (am g : Nat → Nat) (τ : Mem) : Prop := (q_L_choices (fun (k1 : Int32) (σ2 : Mem) (n3 : Int64) (v4 : Value) => (q_X8_choices (g 0) (g 2) (fun (r5 : Int32) (τ6 : Mem) => nx σ2 n3 v4 am g τ6) a1 a2 τ)) a1 a2 n v σ)
set_option maxHeartbeats 4000000 in
set_option maxRecDepth 100000 in
theorem cs_23 {p : Program} {e : Env} {s : State} {m : MethodId} {below : List Frame} {meth : Method} {c : Code} (l : Launch) (hflag : l.stackTraces = false) {b L : Nat} {xs : Nat → Int32} (C0 : lw_At p s m meth c b L xs) {D : va_G} {k : Nat → Nat} (hG : GG D k (fun q : Nat => s.heap.size ≤ q) s s.heap) (hN : NC s) {ad am g : Nat → Nat} {o : Nat} {σ τ : Mem} {n : Int64} {v : Value} {x4 a1 a2 a3 a4 : Int32} (hi1 : vp_in (x4 + 1) L) (hi2 : vp_in (x4 + 2) L) (hi3 : vp_in (x4 + 3) L) (hi4 : vp_in (x4 + 4) L) (ha1 : xs (x4 + 1).toNatClampNeg = a1) (ha2 : xs (x4 + 2).toNatClampNeg = a2) (ha3 : xs (x4 + 3).toNatClampNeg = a3) (ha4 : xs (x4 + 4).toNatClampNeg = a4) (hgk : gk g) {cells slots : Nat} (hcl : cells + 100 ≤ 601024) (hsl : slots + 1000 ≤ 7293034) {H : Heap} {locs : List Loc} {ls : Array Slot} {Q : State → Prop} {nx : Mem → Int64 → Value → (Nat → Nat) → (Nat → Nat) → Mem → Prop} (hP : va_P D vwCl ((W5 k ad σ ++ WO o n v) ++ WM k am g τ) H) (hD : va_D (fun q : Nat => s.heap.size ≤ q) ((W5 k ad σ ++ WO o n v) ++ WM k am g τ)) (hS : va_S (fun q : Nat => s.heap.size ≤ q) s.heap H locs) (hl : lv_has ls 7 [(0, .ref b), (1, .ref (ad 0)), (2, .ref (am 0)), (3, .ref o), (4, .int x4)]) (hp : q_case_23 nx a1 a2 a3 a4 σ n v am g τ) (K : ∀ (σ' : Mem) (n' : Int64) (v' : Value) (am' g' : Nat → Nat) (τ' : Mem) (H' : Heap) (locs' : List Loc) (cells' slots' : Nat) (ls' : Array Slot), gk g' → nx σ' n' v' am' g' τ' → va_P D vwCl ((W5 k ad σ' ++ WO o n' v') ++ WM k am' g' τ') H' → va_D (fun q : Nat => s.heap.size ≤ q) ((W5 k ad σ' ++ WO o n' v') ++ WM k am' g' τ') → va_S (fun q : Nat => s.heap.size ≤ q) s.heap H' locs' → cells' ≤ cells + 100 → slots' ≤ slots + 1000 → lv_has ls' 7 [(0, .ref b), (1, .ref (ad 0)), (2, .ref (am' 0)), (3, .ref o), (4, .int x4)] → W p l e room_1 s m #[Value.ref b] below meth c H' locs' cells' slots' Q (F0 m 1248 ls' [])) : W p l e room_1 s m #[Value.ref b] below meth c H locs cells slots Q (F0 m 1141 ls []) := by
  obtain ⟨hx, hb, hr, hml, hown, hts0, hX, hbl, hlocks, hgv⟩ := id C0
  have hts : ∀ w ∈ wLAW, w.before #[Value.ref b] s = true := jLAW hts0
  have hA : ∀ q : Nat, s.heap.size ≤ q → (fun q : Nat => s.heap.size ≤ q) q := fun _ h => h
  have hbA : ¬ (fun q : Nat => s.heap.size ≤ q) b := Nat.not_le.mpr hbl
  generalize hAe : (fun q : Nat => s.heap.size ≤ q) = A at hG hP hD hS hA hbA K
  have hC : Cx p m c code 7 s #[Value.ref b] wLAW RL D k A := ⟨⟨hx, hb, hml, hown, hts⟩, hG, hA⟩
  have hK := hG.1
  have hown : s.vm.findClass RL = some m.cls := hown
  have hin_X6 : ∀ w ∈ u_ws RX6 TX6 2, w ∈ wLAW := fun w h => iUB_X6 w h
  unfold q_case_23 at hp
  refine lv_aload_n hx hb dL_law_1141 rfl (lv_at hl 1 rfl) ?_
  refine lv_aload_n hx hb dL_law_1142 rfl (lv_at hl 0 rfl) ?_
  refine lv_iload hx hb dL_law_1143 (lv_at hl 4 rfl) ?_
  refine lv_iconst (v := 1) hx hb dL_law_1145 (by decide) ?_
  refine lv_iadd hx hb dL_law_1146 ?_
  refine va_sld hx hb hX hbl hbA hS hi1 dL_law_1147 ?_
  rw [ha1]
  refine lv_aload_n hx hb dL_law_1148 rfl (lv_at hl 0 rfl) ?_
  refine lv_iload hx hb dL_law_1149 (lv_at hl 4 rfl) ?_
  refine lv_iconst (v := 2) hx hb dL_law_1151 (by decide) ?_
  refine lv_iadd hx hb dL_law_1152 ?_
  refine va_sld hx hb hX hbl hbA hS hi2 dL_law_1153 ?_
  rw [ha2]
  refine lv_aload_n hx hb dL_law_1154 rfl (lv_at hl 3 rfl) ?_
  refine fw_ciSL (S := Mem × Int64 × Value) (wf := fun u => W5 k ad u.1 ++ WO o u.2.1 u.2.2) (wN := fun u => (W5 k ad u.1 ++ WO o u.2.1 u.2.2) ++ WM k am g τ) (As := [.ref (ad 0), .int a1, .int a2, .ref o]) (rest := []) hC hN (c_L_choices l hflag D k ad o hp) (vx_cwSW 4 hts (gT (va_wsS RL 190 yL_choices wq_L_choices) (mS2 B_211 B_212 B_94 B_78)) rfl rfl rfl (by decide +kernel) ⟨Nat.le_of_ble_eq_true rfl, Nat.le_of_ble_eq_true rfl⟩) rfl hl.1 rfl (Nat.le_of_ble_eq_true rfl) dL_law_1155 ⟨by show cells + 1 ≤ 601024; omega, by show slots + 6 ≤ 7293034; omega⟩ (P_left hP) (D_left hD) hS (Jn.left hP hD) (fun k1 u9 H locs hP hD hS hp => ?_)
  obtain ⟨σ2, n3, v4⟩ := u9
  have hP : va_P D vwCl ((W5 k ad σ2 ++ WO o n3 v4) ++ WM k am g τ) H := hP
  have hD : va_D A ((W5 k ad σ2 ++ WO o n3 v4) ++ WM k am g τ) := hD
  refine lv_istore (lv' := [(5, .int k1), (0, .ref b), (1, .ref (ad 0)), (2, .ref (am 0)), (3, .ref o), (4, .int x4)]) hx hb dL_law_1158 hl (by decide) rfl (fun ls hl => ?_)
  refine lv_aload_n hx hb dL_law_1160 rfl (lv_at hl 3 rfl) ?_
  refine lv_aload_n hx hb dL_law_1161 rfl (lv_at hl 1 rfl) ?_
  refine lv_iload hx hb dL_law_1162 (lv_at hl 5 rfl) ?_
  refine lv_iconst (v := 1) hx hb dL_law_1164 (by decide) ?_
  refine lv_iadd hx hb dL_law_1165 ?_
  refine va_sld hx hb hX hbl hbA hS hi1 dL_law_1166 ?_
  rw [ha1]
  refine lv_aload_n hx hb dL_law_1167 rfl (lv_at hl 1 rfl) ?_
  refine lv_iload hx hb dL_law_1168 (lv_at hl 5 rfl) ?_
  refine lv_iconst (v := 2) hx hb dL_law_1170 (by decide) ?_
  refine lv_iadd hx hb dL_law_1171 ?_
  refine va_sld hx hb hX hbl hbA hS hi2 dL_law_1172 ?_
  rw [ha2]
  refine fw_ciV (wf := fun u : Mem => WM k am g u) (wN := fun u : Mem => (W5 k ad σ2 ++ WO o n3 v4) ++ WM k am g u) (As := [.int a1, .int a2]) (rest := []) hC (c_X8_choices l D k am g hgk.1 hp) (cwV 2 hts (gT (wsV RL 192 RX8 yX8_choices wq_X8_choices) (mV2 B_213 B_214 B_215 (iB_A _ A_601) (iB_A _ A_925))) rfl rfl rfl (by decide +kernel) ⟨Nat.le_of_ble_eq_true rfl, Nat.le_of_ble_eq_true rfl⟩) (va_recv hK (P_right hP) (ci := 12) (q0 := 0) rfl rfl) rfl hl.1 rfl (Nat.le_of_ble_eq_true rfl) dL_law_1173 ⟨by show cells + 1 + 0 ≤ 601024; omega, by show slots + 6 + 0 ≤ 7293034; omega⟩ (P_right hP) (D_right hD) hS (Jn.right hP hD) (fun r5 τ6 H locs hP hD hS hp => ?_)
  have hP : va_P D vwCl ((W5 k ad σ2 ++ WO o n3 v4) ++ WM k am g τ6) H := hP
  have hD : va_D A ((W5 k ad σ2 ++ WO o n3 v4) ++ WM k am g τ6) := hD
  refine lv_istore (lv' := [(6, .int r5), (5, .int k1), (0, .ref b), (1, .ref (ad 0)), (2, .ref (am 0)), (3, .ref o), (4, .int x4)]) hx hb dL_law_1176 hl (by decide) rfl (fun ls hl => ?_)
  refine lv_goto (tgt := 1248) hx hb dL_law_1178 (by decide) ?_
  exact K σ2 n3 v4 am g τ6 _ _ _ _ _ hgk hp hP hD hS (by omega) (by omega) (lv_sub hl [2, 3, 4, 5, 6] rfl)
def q_case_24 (nx : Mem → Int64 → Value → (Nat → Nat) → (Nat → Nat) → Mem → Prop) (a1 a2 a3 a4 : Int32) (σ : Mem) (n : Int64) (v : Value) (am g : Nat → Nat) (τ : Mem) : Prop := (q_L_isNarrower (fun (k1 : Int32) (σ2 : Mem) (n3 : Int64) (v4 : Value) => (q_X8_isNarrower (g 0) (g 2) (fun (r5 : Int32) (τ6 : Mem) => nx σ2 n3 v4 am g τ6) a1 a2 τ)) a1 a2 n v σ)
set_option maxHeartbeats 4000000 in
set_option maxRecDepth 100000 in
theorem cs_24 {p : Program} {e : Env} {s : State} {m : MethodId} {below : List Frame} {meth : Method} {c : Code} (l : Launch) (hflag : l.stackTraces = false) {b L : Nat} {xs : Nat → Int32} (C0 : lw_At p s m meth c b L xs) {D : va_G} {k : Nat → Nat} (hG : GG D k (fun q : Nat => s.heap.size ≤ q) s s.heap) (hN : NC s) {ad am g : Nat → Nat} {o : Nat} {σ τ : Mem} {n : Int64} {v : Value} {x4 a1 a2 a3 a4 : Int32} (hi1 : vp_in (x4 + 1) L) (hi2 : vp_in (x4 + 2) L) (hi3 : vp_in (x4 + 3) L) (hi4 : vp_in (x4 + 4) L) (ha1 : xs (x4 + 1).toNatClampNeg = a1) (ha2 : xs (x4 + 2).toNatClampNeg = a2) (ha3 : xs (x4 + 3).toNatClampNeg = a3) (ha4 : xs (x4 + 4).toNatClampNeg = a4) (hgk : gk g) {cells slots : Nat} (hcl : cells + 100 ≤ 601024) (hsl : slots + 1000 ≤ 7293034) {H : Heap} {locs : List Loc} {ls : Array Slot} {Q : State → Prop} {nx : Mem → Int64 → Value → (Nat → Nat) → (Nat → Nat) → Mem → Prop} (hP : va_P D vwCl ((W5 k ad σ ++ WO o n v) ++ WM k am g τ) H) (hD : va_D (fun q : Nat => s.heap.size ≤ q) ((W5 k ad σ ++ WO o n v) ++ WM k am g τ)) (hS : va_S (fun q : Nat => s.heap.size ≤ q) s.heap H locs) (hl : lv_has ls 7 [(0, .ref b), (1, .ref (ad 0)), (2, .ref (am 0)), (3, .ref o), (4, .int x4)]) (hp : q_case_24 nx a1 a2 a3 a4 σ n v am g τ) (K : ∀ (σ' : Mem) (n' : Int64) (v' : Value) (am' g' : Nat → Nat) (τ' : Mem) (H' : Heap) (locs' : List Loc) (cells' slots' : Nat) (ls' : Array Slot), gk g' → nx σ' n' v' am' g' τ' → va_P D vwCl ((W5 k ad σ' ++ WO o n' v') ++ WM k am' g' τ') H' → va_D (fun q : Nat => s.heap.size ≤ q) ((W5 k ad σ' ++ WO o n' v') ++ WM k am' g' τ') → va_S (fun q : Nat => s.heap.size ≤ q) s.heap H' locs' → cells' ≤ cells + 100 → slots' ≤ slots + 1000 → lv_has ls' 7 [(0, .ref b), (1, .ref (ad 0)), (2, .ref (am' 0)), (3, .ref o), (4, .int x4)] → W p l e room_1 s m #[Value.ref b] below meth c H' locs' cells' slots' Q (F0 m 1248 ls' [])) : W p l e room_1 s m #[Value.ref b] below meth c H locs cells slots Q (F0 m 1181 ls []) := by
  obtain ⟨hx, hb, hr, hml, hown, hts0, hX, hbl, hlocks, hgv⟩ := id C0
  have hts : ∀ w ∈ wLAW, w.before #[Value.ref b] s = true := jLAW hts0
  have hA : ∀ q : Nat, s.heap.size ≤ q → (fun q : Nat => s.heap.size ≤ q) q := fun _ h => h
  have hbA : ¬ (fun q : Nat => s.heap.size ≤ q) b := Nat.not_le.mpr hbl
  generalize hAe : (fun q : Nat => s.heap.size ≤ q) = A at hG hP hD hS hA hbA K
  have hC : Cx p m c code 7 s #[Value.ref b] wLAW RL D k A := ⟨⟨hx, hb, hml, hown, hts⟩, hG, hA⟩
  have hK := hG.1
  have hown : s.vm.findClass RL = some m.cls := hown
  have hin_X6 : ∀ w ∈ u_ws RX6 TX6 2, w ∈ wLAW := fun w h => iUB_X6 w h
  unfold q_case_24 at hp
  refine lv_aload_n hx hb dL_law_1181 rfl (lv_at hl 1 rfl) ?_
  refine lv_aload_n hx hb dL_law_1182 rfl (lv_at hl 0 rfl) ?_
  refine lv_iload hx hb dL_law_1183 (lv_at hl 4 rfl) ?_
  refine lv_iconst (v := 1) hx hb dL_law_1185 (by decide) ?_
  refine lv_iadd hx hb dL_law_1186 ?_
  refine va_sld hx hb hX hbl hbA hS hi1 dL_law_1187 ?_
  rw [ha1]
  refine lv_aload_n hx hb dL_law_1188 rfl (lv_at hl 0 rfl) ?_
  refine lv_iload hx hb dL_law_1189 (lv_at hl 4 rfl) ?_
  refine lv_iconst (v := 2) hx hb dL_law_1191 (by decide) ?_
  refine lv_iadd hx hb dL_law_1192 ?_
  refine va_sld hx hb hX hbl hbA hS hi2 dL_law_1193 ?_
  rw [ha2]
  refine lv_aload_n hx hb dL_law_1194 rfl (lv_at hl 3 rfl) ?_
  refine fw_ciSL (S := Mem × Int64 × Value) (wf := fun u => W5 k ad u.1 ++ WO o u.2.1 u.2.2) (wN := fun u => (W5 k ad u.1 ++ WO o u.2.1 u.2.2) ++ WM k am g τ) (As := [.ref (ad 0), .int a1, .int a2, .ref o]) (rest := []) hC hN (c_L_isNarrower l hflag D k ad o hp) (vx_cwSW 4 hts (gT (va_wsS RL 193 yL_isNarrower wq_L_isNarrower) (mS2 B_216 B_217 B_94 B_79)) rfl rfl rfl (by decide +kernel) ⟨Nat.le_of_ble_eq_true rfl, Nat.le_of_ble_eq_true rfl⟩) rfl hl.1 rfl (Nat.le_of_ble_eq_true rfl) dL_law_1195 ⟨by show cells + 1 ≤ 601024; omega, by show slots + 6 ≤ 7293034; omega⟩ (P_left hP) (D_left hD) hS (Jn.left hP hD) (fun k1 u9 H locs hP hD hS hp => ?_)
  obtain ⟨σ2, n3, v4⟩ := u9
  have hP : va_P D vwCl ((W5 k ad σ2 ++ WO o n3 v4) ++ WM k am g τ) H := hP
  have hD : va_D A ((W5 k ad σ2 ++ WO o n3 v4) ++ WM k am g τ) := hD
  refine lv_istore (lv' := [(5, .int k1), (0, .ref b), (1, .ref (ad 0)), (2, .ref (am 0)), (3, .ref o), (4, .int x4)]) hx hb dL_law_1198 hl (by decide) rfl (fun ls hl => ?_)
  refine lv_aload_n hx hb dL_law_1200 rfl (lv_at hl 3 rfl) ?_
  refine lv_aload_n hx hb dL_law_1201 rfl (lv_at hl 1 rfl) ?_
  refine lv_iload hx hb dL_law_1202 (lv_at hl 5 rfl) ?_
  refine lv_iconst (v := 1) hx hb dL_law_1204 (by decide) ?_
  refine lv_iadd hx hb dL_law_1205 ?_
  refine va_sld hx hb hX hbl hbA hS hi1 dL_law_1206 ?_
  rw [ha1]
  refine lv_aload_n hx hb dL_law_1207 rfl (lv_at hl 1 rfl) ?_
  refine lv_iload hx hb dL_law_1208 (lv_at hl 5 rfl) ?_
  refine lv_iconst (v := 2) hx hb dL_law_1210 (by decide) ?_
  refine lv_iadd hx hb dL_law_1211 ?_
  refine va_sld hx hb hX hbl hbA hS hi2 dL_law_1212 ?_
  rw [ha2]
  refine fw_ciV (wf := fun u : Mem => WM k am g u) (wN := fun u : Mem => (W5 k ad σ2 ++ WO o n3 v4) ++ WM k am g u) (As := [.int a1, .int a2]) (rest := []) hC (c_X8_isNarrower l D k am g hgk.1 hp) (cwV 2 hts (gT (wsV RL 195 RX8 yX8_isNarrower wq_X8_isNarrower) (mV2 B_221 B_222 B_223 (iB_A _ A_601) (iB_A _ A_926))) rfl rfl rfl (by decide +kernel) ⟨Nat.le_of_ble_eq_true rfl, Nat.le_of_ble_eq_true rfl⟩) (va_recv hK (P_right hP) (ci := 12) (q0 := 0) rfl rfl) rfl hl.1 rfl (Nat.le_of_ble_eq_true rfl) dL_law_1213 ⟨by show cells + 1 + 0 ≤ 601024; omega, by show slots + 6 + 0 ≤ 7293034; omega⟩ (P_right hP) (D_right hD) hS (Jn.right hP hD) (fun r5 τ6 H locs hP hD hS hp => ?_)
  have hP : va_P D vwCl ((W5 k ad σ2 ++ WO o n3 v4) ++ WM k am g τ6) H := hP
  have hD : va_D A ((W5 k ad σ2 ++ WO o n3 v4) ++ WM k am g τ6) := hD
  refine lv_istore (lv' := [(6, .int r5), (5, .int k1), (0, .ref b), (1, .ref (ad 0)), (2, .ref (am 0)), (3, .ref o), (4, .int x4)]) hx hb dL_law_1216 hl (by decide) rfl (fun ls hl => ?_)
  refine lv_goto (tgt := 1248) hx hb dL_law_1218 (by decide) ?_
  exact K σ2 n3 v4 am g τ6 _ _ _ _ _ hgk hp hP hD hS (by omega) (by omega) (lv_sub hl [2, 3, 4, 5, 6] rfl)
def q_case_25 (nx : Mem → Int64 → Value → (Nat → Nat) → (Nat → Nat) → Mem → Prop) (a1 a2 a3 a4 : Int32) (σ : Mem) (n : Int64) (v : Value) (am g : Nat → Nat) (τ : Mem) : Prop := (q_X5_isSound (fun (r1 : Int32) (σ2 : Mem) => (q_X8_isSound (g 0) (g 2) (fun (r3 : Int32) (τ4 : Mem) => nx σ2 n v am g τ4) τ)) σ)
set_option maxHeartbeats 4000000 in
set_option maxRecDepth 100000 in
theorem cs_25 {p : Program} {e : Env} {s : State} {m : MethodId} {below : List Frame} {meth : Method} {c : Code} (l : Launch) (hflag : l.stackTraces = false) {b L : Nat} {xs : Nat → Int32} (C0 : lw_At p s m meth c b L xs) {D : va_G} {k : Nat → Nat} (hG : GG D k (fun q : Nat => s.heap.size ≤ q) s s.heap) (hN : NC s) {ad am g : Nat → Nat} {o : Nat} {σ τ : Mem} {n : Int64} {v : Value} {x4 a1 a2 a3 a4 : Int32} (hi1 : vp_in (x4 + 1) L) (hi2 : vp_in (x4 + 2) L) (hi3 : vp_in (x4 + 3) L) (hi4 : vp_in (x4 + 4) L) (ha1 : xs (x4 + 1).toNatClampNeg = a1) (ha2 : xs (x4 + 2).toNatClampNeg = a2) (ha3 : xs (x4 + 3).toNatClampNeg = a3) (ha4 : xs (x4 + 4).toNatClampNeg = a4) (hgk : gk g) {cells slots : Nat} (hcl : cells + 100 ≤ 601024) (hsl : slots + 1000 ≤ 7293034) {H : Heap} {locs : List Loc} {ls : Array Slot} {Q : State → Prop} {nx : Mem → Int64 → Value → (Nat → Nat) → (Nat → Nat) → Mem → Prop} (hP : va_P D vwCl ((W5 k ad σ ++ WO o n v) ++ WM k am g τ) H) (hD : va_D (fun q : Nat => s.heap.size ≤ q) ((W5 k ad σ ++ WO o n v) ++ WM k am g τ)) (hS : va_S (fun q : Nat => s.heap.size ≤ q) s.heap H locs) (hl : lv_has ls 7 [(0, .ref b), (1, .ref (ad 0)), (2, .ref (am 0)), (3, .ref o), (4, .int x4)]) (hp : q_case_25 nx a1 a2 a3 a4 σ n v am g τ) (K : ∀ (σ' : Mem) (n' : Int64) (v' : Value) (am' g' : Nat → Nat) (τ' : Mem) (H' : Heap) (locs' : List Loc) (cells' slots' : Nat) (ls' : Array Slot), gk g' → nx σ' n' v' am' g' τ' → va_P D vwCl ((W5 k ad σ' ++ WO o n' v') ++ WM k am' g' τ') H' → va_D (fun q : Nat => s.heap.size ≤ q) ((W5 k ad σ' ++ WO o n' v') ++ WM k am' g' τ') → va_S (fun q : Nat => s.heap.size ≤ q) s.heap H' locs' → cells' ≤ cells + 100 → slots' ≤ slots + 1000 → lv_has ls' 7 [(0, .ref b), (1, .ref (ad 0)), (2, .ref (am' 0)), (3, .ref o), (4, .int x4)] → W p l e room_1 s m #[Value.ref b] below meth c H' locs' cells' slots' Q (F0 m 1248 ls' [])) : W p l e room_1 s m #[Value.ref b] below meth c H locs cells slots Q (F0 m 1221 ls []) := by
  obtain ⟨hx, hb, hr, hml, hown, hts0, hX, hbl, hlocks, hgv⟩ := id C0
  have hts : ∀ w ∈ wLAW, w.before #[Value.ref b] s = true := jLAW hts0
  have hA : ∀ q : Nat, s.heap.size ≤ q → (fun q : Nat => s.heap.size ≤ q) q := fun _ h => h
  have hbA : ¬ (fun q : Nat => s.heap.size ≤ q) b := Nat.not_le.mpr hbl
  generalize hAe : (fun q : Nat => s.heap.size ≤ q) = A at hG hP hD hS hA hbA K
  have hC : Cx p m c code 7 s #[Value.ref b] wLAW RL D k A := ⟨⟨hx, hb, hml, hown, hts⟩, hG, hA⟩
  have hK := hG.1
  have hown : s.vm.findClass RL = some m.cls := hown
  have hin_X6 : ∀ w ∈ u_ws RX6 TX6 2, w ∈ wLAW := fun w h => iUB_X6 w h
  unfold q_case_25 at hp
  refine lv_aload_n hx hb dL_law_1221 rfl (lv_at hl 1 rfl) ?_
  have hP5 : va_P D vwCl (W5 k ad σ ++ (WO o n v ++ WM k am g τ)) H := by rw [← List.append_assoc]; exact hP
  have hD5 : va_D A (W5 k ad σ ++ (WO o n v ++ WM k am g τ)) := by rw [← List.append_assoc]; exact hD
  refine fw_ciV (wf := fun u : Mem => W5 k ad u) (wN := fun u : Mem => W5 k ad u ++ (WO o n v ++ WM k am g τ)) (As := []) (rest := []) hC (c_X5_isSound l D k ad hp) (cwV 0 hts (gT (wsV RL 196 RX5 yX5_isSound wq_X5_isSound) (mV2 B_224 (iB_A _ A_558) (iB_A _ A_559) (iB_A _ A_25) (iB_A _ A_525))) rfl rfl rfl (by decide +kernel) ⟨Nat.le_of_ble_eq_true rfl, Nat.le_of_ble_eq_true rfl⟩) (va_recv hK hP (ci := 9) (q0 := 0) rfl rfl) rfl hl.1 rfl (Nat.le_of_ble_eq_true rfl) dL_law_1222 ⟨by show cells + 0 ≤ 601024; omega, by show slots + 0 ≤ 7293034; omega⟩ (P_left hP5) (D_left hD5) hS (Jn.left hP5 hD5) (fun r1 σ2 H locs hP hD hS hp => ?_)
  have hP : va_P D vwCl ((W5 k ad σ2 ++ WO o n v) ++ WM k am g τ) H := by rw [List.append_assoc]; exact hP
  have hD : va_D A ((W5 k ad σ2 ++ WO o n v) ++ WM k am g τ) := by rw [List.append_assoc]; exact hD
  refine lv_pop hx hb dL_law_1225 rfl ?_
  refine lv_aload_n hx hb dL_law_1226 rfl (lv_at hl 2 rfl) ?_
  refine fw_ciV (wf := fun u : Mem => WM k am g u) (wN := fun u : Mem => (W5 k ad σ2 ++ WO o n v) ++ WM k am g u) (As := []) (rest := []) hC (c_X8_isSound l D k am g hgk.1 hp) (cwV 0 hts (gT (wsV RL 200 RX8 yX8_isSound wq_X8_isSound) (mV2 B_225 B_226 B_227 (iB_A _ A_601) (iB_A _ A_931))) rfl rfl rfl (by decide +kernel) ⟨Nat.le_of_ble_eq_true rfl, Nat.le_of_ble_eq_true rfl⟩) (va_recv hK (P_right hP) (ci := 12) (q0 := 0) rfl rfl) rfl hl.1 rfl (Nat.le_of_ble_eq_true rfl) dL_law_1227 ⟨by show cells + 0 + 1 ≤ 601024; omega, by show slots + 0 + 4 ≤ 7293034; omega⟩ (P_right hP) (D_right hD) hS (Jn.right hP hD) (fun r3 τ4 H locs hP hD hS hp => ?_)
  have hP : va_P D vwCl ((W5 k ad σ2 ++ WO o n v) ++ WM k am g τ4) H := hP
  have hD : va_D A ((W5 k ad σ2 ++ WO o n v) ++ WM k am g τ4) := hD
  refine lv_pop hx hb dL_law_1230 rfl ?_
  refine lv_goto (tgt := 1248) hx hb dL_law_1231 (by decide) ?_
  exact K σ2 n v am g τ4 _ _ _ _ _ hgk hp hP hD hS (by omega) (by omega) (lv_sub hl [0, 1, 2, 3, 4] rfl)
def q_case_26 (nx : Mem → Int64 → Value → (Nat → Nat) → (Nat → Nat) → Mem → Prop) (a1 a2 a3 a4 : Int32) (σ : Mem) (n : Int64) (v : Value) (am g : Nat → Nat) (τ : Mem) : Prop := (q_X5_digest (fun (r1 : Int64) (σ2 : Mem) => (q_X8_digest (g 0) (g 2) (fun (r3 : Int64) (τ4 : Mem) => ((r1 = r3 → nx σ2 n v am g τ4) ∧ (¬ (r1 = r3) → False))) τ)) σ)
set_option maxHeartbeats 4000000 in
set_option maxRecDepth 100000 in
theorem cs_26 {p : Program} {e : Env} {s : State} {m : MethodId} {below : List Frame} {meth : Method} {c : Code} (l : Launch) (hflag : l.stackTraces = false) {b L : Nat} {xs : Nat → Int32} (C0 : lw_At p s m meth c b L xs) {D : va_G} {k : Nat → Nat} (hG : GG D k (fun q : Nat => s.heap.size ≤ q) s s.heap) (hN : NC s) {ad am g : Nat → Nat} {o : Nat} {σ τ : Mem} {n : Int64} {v : Value} {x4 a1 a2 a3 a4 : Int32} (hi1 : vp_in (x4 + 1) L) (hi2 : vp_in (x4 + 2) L) (hi3 : vp_in (x4 + 3) L) (hi4 : vp_in (x4 + 4) L) (ha1 : xs (x4 + 1).toNatClampNeg = a1) (ha2 : xs (x4 + 2).toNatClampNeg = a2) (ha3 : xs (x4 + 3).toNatClampNeg = a3) (ha4 : xs (x4 + 4).toNatClampNeg = a4) (hgk : gk g) {cells slots : Nat} (hcl : cells + 100 ≤ 601024) (hsl : slots + 1000 ≤ 7293034) {H : Heap} {locs : List Loc} {ls : Array Slot} {Q : State → Prop} {nx : Mem → Int64 → Value → (Nat → Nat) → (Nat → Nat) → Mem → Prop} (hP : va_P D vwCl ((W5 k ad σ ++ WO o n v) ++ WM k am g τ) H) (hD : va_D (fun q : Nat => s.heap.size ≤ q) ((W5 k ad σ ++ WO o n v) ++ WM k am g τ)) (hS : va_S (fun q : Nat => s.heap.size ≤ q) s.heap H locs) (hl : lv_has ls 7 [(0, .ref b), (1, .ref (ad 0)), (2, .ref (am 0)), (3, .ref o), (4, .int x4)]) (hp : q_case_26 nx a1 a2 a3 a4 σ n v am g τ) (K : ∀ (σ' : Mem) (n' : Int64) (v' : Value) (am' g' : Nat → Nat) (τ' : Mem) (H' : Heap) (locs' : List Loc) (cells' slots' : Nat) (ls' : Array Slot), gk g' → nx σ' n' v' am' g' τ' → va_P D vwCl ((W5 k ad σ' ++ WO o n' v') ++ WM k am' g' τ') H' → va_D (fun q : Nat => s.heap.size ≤ q) ((W5 k ad σ' ++ WO o n' v') ++ WM k am' g' τ') → va_S (fun q : Nat => s.heap.size ≤ q) s.heap H' locs' → cells' ≤ cells + 100 → slots' ≤ slots + 1000 → lv_has ls' 7 [(0, .ref b), (1, .ref (ad 0)), (2, .ref (am' 0)), (3, .ref o), (4, .int x4)] → W p l e room_1 s m #[Value.ref b] below meth c H' locs' cells' slots' Q (F0 m 1248 ls' [])) : W p l e room_1 s m #[Value.ref b] below meth c H locs cells slots Q (F0 m 1234 ls []) := by
  obtain ⟨hx, hb, hr, hml, hown, hts0, hX, hbl, hlocks, hgv⟩ := id C0
  have hts : ∀ w ∈ wLAW, w.before #[Value.ref b] s = true := jLAW hts0
  have hA : ∀ q : Nat, s.heap.size ≤ q → (fun q : Nat => s.heap.size ≤ q) q := fun _ h => h
  have hbA : ¬ (fun q : Nat => s.heap.size ≤ q) b := Nat.not_le.mpr hbl
  generalize hAe : (fun q : Nat => s.heap.size ≤ q) = A at hG hP hD hS hA hbA K
  have hC : Cx p m c code 7 s #[Value.ref b] wLAW RL D k A := ⟨⟨hx, hb, hml, hown, hts⟩, hG, hA⟩
  have hK := hG.1
  have hown : s.vm.findClass RL = some m.cls := hown
  have hin_X6 : ∀ w ∈ u_ws RX6 TX6 2, w ∈ wLAW := fun w h => iUB_X6 w h
  unfold q_case_26 at hp
  refine lv_aload_n hx hb dL_law_1234 rfl (lv_at hl 1 rfl) ?_
  have hP5 : va_P D vwCl (W5 k ad σ ++ (WO o n v ++ WM k am g τ)) H := by rw [← List.append_assoc]; exact hP
  have hD5 : va_D A (W5 k ad σ ++ (WO o n v ++ WM k am g τ)) := by rw [← List.append_assoc]; exact hD
  refine fw_clV (wf := fun u : Mem => W5 k ad u) (wN := fun u : Mem => W5 k ad u ++ (WO o n v ++ WM k am g τ)) (As := []) (rest := []) hC (c_X5_digest l D k ad hp) (cwV 0 hts (gT (wsV RL 201 RX5 yX5_digest wq_X5_digest) (mV2 B_228 B_229 B_230 (iB_A _ A_25) (iB_A _ A_560))) rfl rfl rfl (by decide +kernel) ⟨Nat.le_of_ble_eq_true rfl, Nat.le_of_ble_eq_true rfl⟩) (va_recv hK hP (ci := 9) (q0 := 0) rfl rfl) rfl hl.1 rfl (Nat.le_of_ble_eq_true rfl) dL_law_1235 ⟨by show cells + 0 ≤ 601024; omega, by show slots + 0 ≤ 7293034; omega⟩ (P_left hP5) (D_left hD5) hS (Jn.left hP5 hD5) (fun r1 σ2 H locs hP hD hS hp => ?_)
  have hP : va_P D vwCl ((W5 k ad σ2 ++ WO o n v) ++ WM k am g τ) H := by rw [List.append_assoc]; exact hP
  have hD : va_D A ((W5 k ad σ2 ++ WO o n v) ++ WM k am g τ) := by rw [List.append_assoc]; exact hD
  refine lv_aload_n hx hb dL_law_1238 rfl (lv_at hl 2 rfl) ?_
  refine fw_clV (wf := fun u : Mem => WM k am g u) (wN := fun u : Mem => (W5 k ad σ2 ++ WO o n v) ++ WM k am g u) (As := []) (rest := [.long r1]) hC (c_X8_digest l D k am g hgk.1 hp) (cwV 0 hts (gT (wsV RL 205 RX8 yX8_digest wq_X8_digest) (mV2 B_231 B_232 B_233 (iB_A _ A_601) (iB_A _ A_939))) rfl rfl rfl (by decide +kernel) ⟨Nat.le_of_ble_eq_true rfl, Nat.le_of_ble_eq_true rfl⟩) (va_recv hK (P_right hP) (ci := 12) (q0 := 0) rfl rfl) rfl hl.1 rfl (Nat.le_of_ble_eq_true rfl) dL_law_1239 ⟨by show cells + 0 + 10 ≤ 601024; omega, by show slots + 0 + 40 ≤ 7293034; omega⟩ (P_right hP) (D_right hD) hS (Jn.right hP hD) (fun r3 τ4 H locs hP hD hS hp => ?_)
  have hP : va_P D vwCl ((W5 k ad σ2 ++ WO o n v) ++ WM k am g τ4) H := hP
  have hD : va_D A ((W5 k ad σ2 ++ WO o n v) ++ WM k am g τ4) := hD
  refine vx_lcmp hx hb dL_law_1242 (fun c5 => ?_) (fun c5 z9 hz9 => ?_)
  · refine lv_if_eq (tgt := 1248) hx hb dL_law_1243 (by decide) (fun _ => ?_) (fun c9 => absurd rfl c9)
    have hp := hp.1 c5
    exact K σ2 n v am g τ4 _ _ _ _ _ hgk hp hP hD hS (by omega) (by omega) (lv_sub hl [0, 1, 2, 3, 4] rfl)
  · refine lv_if_eq (tgt := 1248) hx hb dL_law_1243 (by decide) (fun c9 => absurd c9 hz9) (fun _ => ?_)
    have hp := hp.2 c5
    exact hp.elim
