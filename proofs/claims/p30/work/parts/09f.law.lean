def q_L_law_272 (L : Nat) (xs : Nat → Int32)   (s0 : Int32) (σ : Mem) : Prop := (s0 = 1)
def q_L_law_271 (L : Nat) (xs : Nat → Int32)   (σ : Mem) : Prop := (q_L_law_272 L xs) 0 (σ)
def q_L_law_244 (L : Nat) (xs : Nat → Int32)   (σ : Mem) : Prop := (q_X5_digest (fun (r13001 : Int64) (σ13002 : Mem) => (q_X5_isSound (fun (r13003 : Int32) (σ13004 : Mem) => ((r13003 = 0 → (q_L_law_271 L xs) (σ13004)) ∧ (¬ (r13003 = 0) → (q_X5_digest (fun (r13006 : Int64) (σ13007 : Mem) => ((r13006 = r13001 → (q_L_law_272 L xs) 1 (σ13007)) ∧ (¬ (r13006 = r13001) → (q_L_law_271 L xs) (σ13007)))) (σ13004))))) (σ13002))) (σ))
def q_L_law_236 (L : Nat) (xs : Nat → Int32)   (σ : Mem) : Prop := False
def q_L_law_216 (L : Nat) (xs : Nat → Int32)  (kE_64 : Mem → Prop) (kE_115 : Mem → Prop) (kE_193 : Mem → Prop) (kE_236 : Mem → Prop) (kE_244 : Mem → Prop) (kc_25 : Int32 → Int32 → Int32 → (Nat → Nat) → Mem → Mem → Prop) (x4 : Int32) (x5 : Int32) (wb : (Nat → Nat)) (wt : Mem) (σ : Mem) : Prop := (q_X5_house (fun (r11001 : Int32) (σ11002 : Mem) => (q_L_isSo (fun (r11003 : Int32) (σ11004 : Mem) => ((r11003 = 0 → kE_236 (σ11004)) ∧ (¬ (r11003 = 0) → (q_L_isReason (fun (r11006 : Int32) (σ11007 : Mem) => ((r11006 ≠ 0 → (∀ v11009 : Int32, v11009 = x5 + 1 → kc_25 r11001 x4 v11009 wb wt (σ11007))) ∧ (r11006 = 0 → kE_236 (σ11007)))) (σ11004))))) (σ11002))) (fun _ _ => False) 5 (σ))
def q_L_law_210 (L : Nat) (xs : Nat → Int32)  (kE_193 : Mem → Prop) (kE_216 : Int32 → Int32 → (Nat → Nat) → Mem → Mem → Prop) (kc_127 : Int32 → Int32 → Int32 → Int32 → Int32 → (Nat → Nat) → Mem → Mem → Prop) (x3 : Int32) (x4 : Int32) (x5 : Int32) (x8 : Int32) (x9 : Int32) (wb : (Nat → Nat)) (wt : Mem) (σ : Mem) : Prop := (∀ v10001 : Int32, v10001 = x9 + 1 → kc_127 x3 x4 x5 x8 v10001 wb wt (σ))
def q_L_law_195 (L : Nat) (xs : Nat → Int32)  (kE_193 : Mem → Prop) (kE_210 : Int32 → Int32 → Int32 → Int32 → Int32 → (Nat → Nat) → Mem → Mem → Prop) (kc_140 : Int32 → Int32 → Int32 → Int32 → Int32 → Int32 → (Nat → Nat) → Mem → Mem → Prop) (x3 : Int32) (x4 : Int32) (x5 : Int32) (x8 : Int32) (x9 : Int32) (x10 : Int32) (x11 : Int32) (wb : (Nat → Nat)) (wt : Mem) (σ : Mem) : Prop := (vp_in x9 12 ∧ (vp_in x10 5 ∧ (∀ κ9003 : Mem, κ9003 = mup wt x9.toNatClampNeg (upd (wt x9.toNatClampNeg) x10.toNatClampNeg x11) → (∀ v9004 : Int32, v9004 = x10 + 1 → kc_140 x3 x4 x5 x8 x9 v9004 wb (κ9003) (σ)))))
def q_L_law_193 (L : Nat) (xs : Nat → Int32)   (σ : Mem) : Prop := False
def q_L_law_175 (L : Nat) (xs : Nat → Int32)  (kE_193 : Mem → Prop) (kE_210 : Int32 → Int32 → Int32 → Int32 → Int32 → (Nat → Nat) → Mem → Mem → Prop) (kc_140 : Int32 → Int32 → Int32 → Int32 → Int32 → Int32 → (Nat → Nat) → Mem → Mem → Prop) (x3 : Int32) (x4 : Int32) (x5 : Int32) (x8 : Int32) (x9 : Int32) (x10 : Int32) (x11 : Int32) (wb : (Nat → Nat)) (wt : Mem) (σ : Mem) : Prop := ((x9 < x3 → (q_L_law_195 L xs kE_193 kE_210 kc_140) x3 x4 x5 x8 x9 x10 x11 wb wt (σ)) ∧ (¬ (x9 < x3) → (q_X5_ofField (fun (r7002 : Int32) (σ7003 : Mem) => ((x11 = r7002 → (q_L_law_195 L xs kE_193 kE_210 kc_140) x3 x4 x5 x8 x9 x10 x11 wb wt (σ7003)) ∧ (¬ (x11 = r7002) → kE_193 (σ7003)))) (fun _ _ => False) x10 3 (σ))))
def q_L_law_140 (L : Nat) (xs : Nat → Int32)  (kE_193 : Mem → Prop) (kE_210 : Int32 → Int32 → Int32 → Int32 → Int32 → (Nat → Nat) → Mem → Mem → Prop) (kc_140 : Int32 → Int32 → Int32 → Int32 → Int32 → Int32 → (Nat → Nat) → Mem → Mem → Prop) (x3 : Int32) (x4 : Int32) (x5 : Int32) (x8 : Int32) (x9 : Int32) (x10 : Int32) (wb : (Nat → Nat)) (wt : Mem) (σ : Mem) : Prop := ((x8 ≤ x10 → kE_210 x3 x4 x5 x8 x9 wb wt (σ)) ∧ (¬ (x8 ≤ x10) → (q_X5_ofCommit (fun (r6002 : Int32) (σ6003 : Mem) => ((x3 ≤ x9 → (q_L_law_175 L xs kE_193 kE_210 kc_140) x3 x4 x5 x8 x9 x10 r6002 wb wt (σ6003)) ∧ (¬ (x3 ≤ x9) → (vp_in x9 12 ∧ (vp_in x10 5 ∧ ((r6002 ≠ (wt x9.toNatClampNeg x10.toNatClampNeg) → kE_193 (σ6003)) ∧ (r6002 = (wt x9.toNatClampNeg x10.toNatClampNeg) → (q_L_law_175 L xs kE_193 kE_210 kc_140) x3 x4 x5 x8 x9 x10 r6002 wb wt (σ6003)))))))) (fun _ _ => False) x9 x10 (σ))))
def q_L_law_127 (L : Nat) (xs : Nat → Int32)  (kE_193 : Mem → Prop) (kE_216 : Int32 → Int32 → (Nat → Nat) → Mem → Mem → Prop) (kc_127 : Int32 → Int32 → Int32 → Int32 → Int32 → (Nat → Nat) → Mem → Mem → Prop) (x3 : Int32) (x4 : Int32) (x5 : Int32) (x8 : Int32) (x9 : Int32) (wb : (Nat → Nat)) (wt : Mem) (σ : Mem) : Prop := (q_X5_house (fun (r5001 : Int32) (σ5002 : Mem) => ((r5001 ≤ x9 → kE_216 x4 x5 wb wt (σ5002)) ∧ (¬ (r5001 ≤ x9) → (∃ n9 : Nat, lp_9 (q_L_law_140 L xs kE_193 (q_L_law_210 L xs kE_193 kE_216 kc_127)) n9 x3 x4 x5 x8 x9 0 wb wt (σ5002))))) (fun _ _ => False) 5 (σ))
def q_L_law_115 (L : Nat) (xs : Nat → Int32)   (σ : Mem) : Prop := False
def q_L_law_66 (L : Nat) (xs : Nat → Int32)  (kE_64 : Mem → Prop) (kE_115 : Mem → Prop) (kE_193 : Mem → Prop) (kE_236 : Mem → Prop) (kE_244 : Mem → Prop) (kc_25 : Int32 → Int32 → Int32 → (Nat → Nat) → Mem → Mem → Prop) (x3 : Int32) (x4 : Int32) (x5 : Int32) (wb : (Nat → Nat)) (wt : Mem) (σ : Mem) : Prop := (q_X5_house (fun (r3001 : Int32) (σ3002 : Mem) => (q_X5_house (fun (r3003 : Int32) (σ3004 : Mem) => ((r3003 < x4 → kE_115 (σ3004)) ∧ (¬ (r3003 < x4) → (q_X5_house (fun (r3006 : Int32) (σ3007 : Mem) => (((x4 + 1) < r3006 → kE_115 (σ3007)) ∧ (¬ ((x4 + 1) < r3006) → (q_X5_house (fun (r3009 : Int32) (σ3010 : Mem) => ((r3009 < x3 → kE_115 (σ3010)) ∧ (¬ (r3009 < x3) → (q_X5_house (fun (r3012 : Int32) (σ3013 : Mem) => ((r3012 ≤ (x3 + 1) → (q_X5_house (fun (r3015 : Int32) (σ3016 : Mem) => (∃ n9 : Nat, lp_8 (q_L_law_127 L xs kE_193 (q_L_law_216 L xs kE_64 kE_115 kE_193 kE_236 kE_244 kc_25)) n9 x3 r3015 x5 r3001 0 wb wt (σ3016))) (fun _ _ => False) 1 (σ3013))) ∧ (¬ (r3012 ≤ (x3 + 1)) → kE_115 (σ3013)))) (fun _ _ => False) 5 (σ3010))))) (fun _ _ => False) 5 (σ3007))))) (fun _ _ => False) 1 (σ3004))))) (fun _ _ => False) 1 (σ3002))) (fun _ _ => False) 0 (σ))
def q_L_law_64 (L : Nat) (xs : Nat → Int32)   (σ : Mem) : Prop := False
def q_L_law_25 (L : Nat) (xs : Nat → Int32)  (kE_64 : Mem → Prop) (kE_115 : Mem → Prop) (kE_193 : Mem → Prop) (kE_236 : Mem → Prop) (kE_244 : Mem → Prop) (kc_25 : Int32 → Int32 → Int32 → (Nat → Nat) → Mem → Mem → Prop) (x3 : Int32) (x4 : Int32) (x5 : Int32) (wb : (Nat → Nat)) (wt : Mem) (σ : Mem) : Prop := ((18 ≤ x5 → kE_244 (σ)) ∧ (¬ (18 ≤ x5) → (q_X5_digest (fun (r1002 : Int64) (σ1003 : Mem) => (¬ ((14 : Int32) + x5) < 0 ∧ (∀ r1005 : Int32, r1005 = cellv L xs ((14 : Int32) + x5) → (q_L_isDone (fun (r1006 : Int32) (σ1007 : Mem) => ((r1006 ≠ 0 → (q_L_law_66 L xs kE_64 kE_115 kE_193 kE_236 kE_244 kc_25) x3 x4 x5 wb wt (σ1007)) ∧ (r1006 = 0 → (q_X5_digest (fun (r1009 : Int64) (σ1010 : Mem) => ((r1009 = r1002 → (q_L_law_66 L xs kE_64 kE_115 kE_193 kE_236 kE_244 kc_25) x3 x4 x5 wb wt (σ1010)) ∧ (¬ (r1009 = r1002) → kE_64 (σ1010)))) (σ1007))))) r1005 (σ1003))))) (σ))))
def q_L_law (L : Nat) (xs : Nat → Int32)  (kd : Nat → Nat) (σ : Mem) : Prop := (q_X5_house (fun (r1 : Int32) (σ2 : Mem) => (∃ n9 : Nat, n9 ≤ 19 ∧ lp_6 (q_L_law_25 L xs (q_L_law_64 L xs) (q_L_law_115 L xs) (q_L_law_193 L xs) (q_L_law_236 L xs) (q_L_law_244 L xs)) n9 0 r1 0 kd (fun _ _ => 0) (σ2))) (fun _ _ => False) 1 (σ))
set_option maxHeartbeats 8000000 in
set_option maxRecDepth 100000 in
theorem law_walk {p : Program} {e : Env} {s : State} {m : MethodId} {below : List Frame} {meth : Method} {c : Code} (l : Launch) (hflag : l.stackTraces = false) {b L : Nat} {xs : Nat → Int32} (hL : L ≤ 260) (C0 : lw_At p s m meth c b L xs) (hp : q_L_house L xs (fun σ => ∀ kd : Nat → Nat, q_L_law L xs kd σ) sI) : W p l e room_1 s m #[Value.ref b] below meth c s.heap [] 0 0 (lw_Z below #[Value.ref b] s) (entryFrame m ([Value.ref b] : List Value).toArray 12) := by
  obtain ⟨hx, hb, hr, hml, hown, hts0, hX, hbl, hlocks, hgv⟩ := id C0
  obtain ⟨D, k, hG⟩ := gg_start C0
  have hts : ∀ w ∈ (Cond.code yL_below cL_below 2 (some .int) : Cond) :: wLAW, w.before #[Value.ref b] s = true := fun w hw => (List.mem_cons.mp hw).elim (fun e => e ▸ jLAW hts0 _ B_0) (jLAW hts0 w)
  obtain ⟨A, eA⟩ : ∃ A : Nat → Prop, A = fun q : Nat => s.heap.size ≤ q := ⟨_, rfl⟩
  have hG : GG D k A s s.heap := by rw [eA]; exact hG
  have hA : ∀ q : Nat, s.heap.size ≤ q → A q := fun q h => by rw [eA]; exact h
  have hbA : ¬ A b := by rw [eA]; exact Nat.not_le.mpr hbl
  have hK := hG.1
  have hC : Cx p m c code 12 s #[Value.ref b] ((Cond.code yL_below cL_below 2 (some .int) : Cond) :: wLAW) RL D k A := ⟨⟨hx, hb, hml, hown, hts⟩, hG, hA⟩
  have hown : s.vm.findClass RL = some m.cls := hown
  have hS : va_S A s.heap s.heap [] := va_S.rf
  have hP : va_P D vwCl [] s.heap := P_nil
  have hD : va_D A [] := D_nil
  have hl := lv_entry ([.ref b]) (n := 12) (Nat.le_of_ble_eq_true rfl)
  rw [lg_entry_eq]
  generalize (lg_sl ([.ref b]) ++ List.replicate (12 - (lg_sl ([.ref b])).length) Slot.unset).toArray = ls at hl ⊢
  have hl : lv_has ls 12 [(0, .ref b)] := hl
  refine lv_aload_n hx hb dL_law_0 rfl (lv_at hl 0 rfl) ?_
  refine fw_crSP (S := (Nat → Nat) × Mem) (post := fun r u => r = u.1 0 ∧ ∀ kd : Nat → Nat, q_L_law L xs kd u.2) (wf := fun u => W5 k u.1 u.2) (wN := fun u => W5 k u.1 u.2) (As := [.ref b]) (rest := []) hC (c_L_house l hflag D k hL hp) (va_cwS 1 hts (gB_L B_76 B_77 B_8 B_37) rfl rfl rfl (by decide +kernel) ⟨Nat.le_of_ble_eq_true rfl, Nat.le_of_ble_eq_true rfl⟩) rfl hl.1 rfl (Nat.le_of_ble_eq_true rfl) dL_law_1 ⟨Nat.le_of_ble_eq_true rfl, Nat.le_of_ble_eq_true rfl⟩ hP hD hS hX hbl hbA Jn.same (fun r u H locs hP hD hS hu => ?_)
  obtain ⟨ad, σ⟩ := u
  obtain ⟨hr9, hp⟩ := hu
  have hr9 : r = ad 0 := hr9
  subst hr9
  have hp : ∀ kd : Nat → Nat, q_L_law L xs kd σ := hp
  have hP : va_P D vwCl (W5 k ad σ) H := hP
  have hD : va_D A (W5 k ad σ) := hD
  refine lv_astore_n (lv' := [(1, .ref (ad 0)), (0, .ref b)]) hx hb dL_law_4 rfl hl (by decide) rfl (fun ls hl => ?_)
  refine lv_bipush (v := 12) hx hb dL_law_5 (by decide) ?_
  refine lv_iconst (v := 5) hx hb dL_law_7 (by decide) ?_
  refine nw_mat hC (hts _ (List.mem_cons_of_mem _ B_75)) (hts _ (List.mem_cons_of_mem _ (iB_A _ A_5))) hP hD hS (by decide) (by decide) (N' := 12) (K' := 5) (by decide) (by decide) (Nat.le_of_ble_eq_true rfl) (Nat.le_of_ble_eq_true rfl) (Nat.le_of_ble_eq_true rfl) (Nat.le_of_ble_eq_true rfl) (Nat.le_of_ble_eq_true rfl) dL_law_8 (fun q r H hP hD hS => ?_)
  rw [KP_start] at hP hD
  obtain ⟨kd, ekd⟩ : ∃ z : Nat → Nat, z = kdI q r := ⟨_, rfl⟩
  rw [← ekd] at hP hD
  have e0 : q = kd 0 := by rw [ekd]; rfl
  rw [e0]
  have hp := hp kd
  refine lv_astore_n (lv' := [(2, .ref (kd 0)), (1, .ref (ad 0)), (0, .ref b)]) hx hb dL_law_12 rfl hl (by decide) rfl (fun ls hl => ?_)
  refine W.widen (k := 300) (n := 3000) (Nat.le_of_ble_eq_true rfl) (Nat.le_of_ble_eq_true rfl) ?_
  unfold q_L_law at hp
  have B_272 : ∀ (s0 : Int32) (σ : Mem) (H : Heap) (locs : List Loc) (ls : Array Slot), va_P D vwCl (W5 k ad (σ)) H → va_D A (W5 k ad (σ)) → va_S A s.heap H locs → lv_has ls 12 [] → (q_L_law_272 L xs) s0 σ → W p l e room_1 s m #[Value.ref b] below meth c H locs 600000 7000000 (lw_Z below #[Value.ref b] s) (F0 m 272 ls [.int s0]) := by
    intro s0 σ H locs ls hP hD hS hl hp
    unfold q_L_law_272 at hp
    obtain rfl := hp
    refine va_forget (fun q hq => by have h9 := hS.2.2 q hq; rw [eA] at h9; exact h9) ?_
    refine W.widen (k := 600104) (n := 7301313) (by omega) (by omega) ?_
    exact lw_ret hx hb hr hlocks dL_law_272
  have B_271 : ∀  (σ : Mem) (H : Heap) (locs : List Loc) (ls : Array Slot), va_P D vwCl (W5 k ad (σ)) H → va_D A (W5 k ad (σ)) → va_S A s.heap H locs → lv_has ls 12 [] → (q_L_law_271 L xs)  σ → W p l e room_1 s m #[Value.ref b] below meth c H locs 600000 7000000 (lw_Z below #[Value.ref b] s) (F0 m 271 ls []) := by
    intro  σ H locs ls hP hD hS hl hp
    unfold q_L_law_271 at hp
    refine lv_iconst (v := 0) hx hb dL_law_271 (by decide) ?_
    exact B_272 0 (σ) _ _ _ hP hD hS (lv_sub hl [] rfl) hp
  have B_244 : ∀  (σ : Mem) (H : Heap) (locs : List Loc) (ls : Array Slot), va_P D vwCl (W5 k ad (σ)) H → va_D A (W5 k ad (σ)) → va_S A s.heap H locs → lv_has ls 12 [(1, .ref (ad 0))] → (q_L_law_244 L xs)  σ → W p l e room_1 s m #[Value.ref b] below meth c H locs 600000 7000000 (lw_Z below #[Value.ref b] s) (F0 m 244 ls []) := by
    intro  σ H locs ls hP hD hS hl hp
    unfold q_L_law_244 at hp
    refine lv_aload_n hx hb dL_law_244 rfl (lv_at hl 0 rfl) ?_
    refine fw_clV (As := []) (rest := []) hC (c_X5_digest l D k ad hp) (cwV 0 hts (gB_V B_78 B_79 B_80 (iB_A _ A_25) (iB_A _ A_338)) rfl rfl rfl (by decide +kernel) ⟨Nat.le_of_ble_eq_true rfl, Nat.le_of_ble_eq_true rfl⟩) (va_recv hK hP (ci := 5) (q0 := 0) rfl rfl) rfl hl.1 rfl (Nat.le_of_ble_eq_true rfl) dL_law_245 ⟨Nat.le_of_ble_eq_true rfl, Nat.le_of_ble_eq_true rfl⟩ hP hD hS Jn.same (fun r130001 σ130002 H locs hP hD hS hp => ?_)
    have hP : va_P D vwCl (W5 k ad (σ130002)) H := hP
    have hD : va_D A (W5 k ad (σ130002)) := hD
    refine lv_lstore (lv' := [(5, .long r130001), (1, .ref (ad 0))]) hx hb dL_law_248 hl (by decide) rfl (fun ls hl => ?_)
    refine lv_aload_n hx hb dL_law_250 rfl (lv_at hl 1 rfl) ?_
    refine fw_ciV (As := []) (rest := []) hC (c_X5_isSound l D k ad hp) (cwV 0 hts (gB_V B_87 (iB_A _ A_336) (iB_A _ A_337) (iB_A _ A_25) (iB_A _ A_303)) rfl rfl rfl (by decide +kernel) ⟨Nat.le_of_ble_eq_true rfl, Nat.le_of_ble_eq_true rfl⟩) (va_recv hK hP (ci := 5) (q0 := 0) rfl rfl) rfl hl.1 rfl (Nat.le_of_ble_eq_true rfl) dL_law_251 ⟨Nat.le_of_ble_eq_true rfl, Nat.le_of_ble_eq_true rfl⟩ hP hD hS Jn.same (fun r130003 σ130004 H locs hP hD hS hp => ?_)
    have hP : va_P D vwCl (W5 k ad (σ130004)) H := hP
    have hD : va_D A (W5 k ad (σ130004)) := hD
    refine lv_if_eq (tgt := 271) hx hb dL_law_254 (by decide) (fun c130005 => ?_) (fun c130005 => ?_)
    · have hp := hp.1 c130005
      exact B_271  (σ130004) _ _ _ hP hD hS (lv_sub hl [] rfl) hp
    · have hp := hp.2 c130005
      refine lv_aload_n hx hb dL_law_257 rfl (lv_at hl 1 rfl) ?_
      refine fw_clV (As := []) (rest := []) hC (c_X5_digest l D k ad hp) (cwV 0 hts (gB_V B_78 B_79 B_80 (iB_A _ A_25) (iB_A _ A_338)) rfl rfl rfl (by decide +kernel) ⟨Nat.le_of_ble_eq_true rfl, Nat.le_of_ble_eq_true rfl⟩) (va_recv hK hP (ci := 5) (q0 := 0) rfl rfl) rfl hl.1 rfl (Nat.le_of_ble_eq_true rfl) dL_law_258 ⟨Nat.le_of_ble_eq_true rfl, Nat.le_of_ble_eq_true rfl⟩ hP hD hS Jn.same (fun r130006 σ130007 H locs hP hD hS hp => ?_)
      have hP : va_P D vwCl (W5 k ad (σ130007)) H := hP
      have hD : va_D A (W5 k ad (σ130007)) := hD
      refine lv_lload hx hb dL_law_261 (lv_at hl 0 rfl) ?_
      refine vx_lcmp hx hb dL_law_263 (fun c130008 => ?_) (fun c130008 z9 hz9 => ?_)
      · refine lv_if_ne (tgt := 271) hx hb dL_law_264 (by decide) (fun c9 => absurd rfl c9) (fun _ => ?_)
        have hp := hp.1 c130008
        refine lv_iconst (v := 1) hx hb dL_law_267 (by decide) ?_
        refine lv_goto (tgt := 272) hx hb dL_law_268 (by decide) ?_
        exact B_272 1 (σ130007) _ _ _ hP hD hS (lv_sub hl [] rfl) hp
      · refine lv_if_ne (tgt := 271) hx hb dL_law_264 (by decide) (fun _ => ?_) (fun c9 => absurd c9 hz9)
        have hp := hp.2 c130008
        exact B_271  (σ130007) _ _ _ hP hD hS (lv_sub hl [] rfl) hp
  have B_236 : ∀  (σ : Mem) (H : Heap) (locs : List Loc) (ls : Array Slot), va_P D vwCl (W5 k ad (σ)) H → va_D A (W5 k ad (σ)) → va_S A s.heap H locs → lv_has ls 12 [] → (q_L_law_236 L xs)  σ → W p l e room_1 s m #[Value.ref b] below meth c H locs 600001 7000006 (lw_Z below #[Value.ref b] s) (F0 m 236 ls []) := by
    intro  σ H locs ls hP hD hS hl hp
    unfold q_L_law_236 at hp
    refine lv_iconst (v := 0) hx hb dL_law_236 (by decide) ?_
    exact hp.elim
  have B_193 : ∀  (σ : Mem) (H : Heap) (locs : List Loc) (ls : Array Slot), va_P D vwCl (W5 k ad (σ)) H → va_D A (W5 k ad (σ)) → va_S A s.heap H locs → lv_has ls 12 [] → (q_L_law_193 L xs)  σ → W p l e room_1 s m #[Value.ref b] below meth c H locs 600001 7000006 (lw_Z below #[Value.ref b] s) (F0 m 193 ls []) := by
    intro  σ H locs ls hP hD hS hl hp
    unfold q_L_law_193 at hp
    refine lv_iconst (v := 0) hx hb dL_law_193 (by decide) ?_
    exact hp.elim
  have B_115 : ∀  (σ : Mem) (H : Heap) (locs : List Loc) (ls : Array Slot), va_P D vwCl (W5 k ad (σ)) H → va_D A (W5 k ad (σ)) → va_S A s.heap H locs → lv_has ls 12 [] → (q_L_law_115 L xs)  σ → W p l e room_1 s m #[Value.ref b] below meth c H locs 600001 7000006 (lw_Z below #[Value.ref b] s) (F0 m 115 ls []) := by
    intro  σ H locs ls hP hD hS hl hp
    unfold q_L_law_115 at hp
    refine lv_iconst (v := 0) hx hb dL_law_115 (by decide) ?_
    exact hp.elim
  have B_64 : ∀  (σ : Mem) (H : Heap) (locs : List Loc) (ls : Array Slot), va_P D vwCl (W5 k ad (σ)) H → va_D A (W5 k ad (σ)) → va_S A s.heap H locs → lv_has ls 12 [] → (q_L_law_64 L xs)  σ → W p l e room_1 s m #[Value.ref b] below meth c H locs 600001 7000006 (lw_Z below #[Value.ref b] s) (F0 m 64 ls []) := by
    intro  σ H locs ls hP hD hS hl hp
    unfold q_L_law_64 at hp
    refine lv_iconst (v := 0) hx hb dL_law_64 (by decide) ?_
    exact hp.elim
  have B_25 : ∀ (n_25 : Nat) (cz9 sz9 : Nat) (hcz : cz9 + n_25 * 1 ≤ 600000 ∧ sz9 + n_25 * 6 ≤ 7000000) (x3 : Int32) (x4 : Int32) (x5 : Int32) (wb : (Nat → Nat)) (wt : Mem) (σ : Mem) (H : Heap) (locs : List Loc) (ls : Array Slot), va_P D vwCl (W5 k ad (σ) ++ KP k wb wt) H → va_D A (W5 k ad (σ) ++ KP k wb wt) → va_S A s.heap H locs → lv_has ls 12 [(0, .ref b), (1, .ref (ad 0)), (2, .ref (wb 0)), (3, .int x3), (4, .int x4), (5, .int x5)] → lp_6 (q_L_law_25 L xs (q_L_law_64 L xs) (q_L_law_115 L xs) (q_L_law_193 L xs) (q_L_law_236 L xs) (q_L_law_244 L xs)) n_25 x3 x4 x5 wb wt σ → W p l e room_1 s m #[Value.ref b] below meth c H locs cz9 sz9 (lw_Z below #[Value.ref b] s) (F0 m 25 ls []) := by
    intro n_25
    induction n_25 with
    | zero => intro cz9 sz9 hcz x3 x4 x5 wb wt σ H locs ls hP hD hS hl hp; exact hp.elim
    | succ n_25 ih_25 =>
      intro cz9 sz9 hcz
      have B_216 : ∀ (x4 : Int32) (x5 : Int32) (wb : (Nat → Nat)) (wt : Mem) (σ : Mem) (H : Heap) (locs : List Loc) (ls : Array Slot), va_P D vwCl (W5 k ad (σ) ++ KP k wb wt) H → va_D A (W5 k ad (σ) ++ KP k wb wt) → va_S A s.heap H locs → lv_has ls 12 [(0, .ref b), (1, .ref (ad 0)), (2, .ref (wb 0)), (4, .int x4), (5, .int x5)] → (q_L_law_216 L xs (q_L_law_64 L xs) (q_L_law_115 L xs) (q_L_law_193 L xs) (q_L_law_236 L xs) (q_L_law_244 L xs) (lp_6 (q_L_law_25 L xs (q_L_law_64 L xs) (q_L_law_115 L xs) (q_L_law_193 L xs) (q_L_law_236 L xs) (q_L_law_244 L xs)) n_25)) x4 x5 wb wt σ → W p l e room_1 s m #[Value.ref b] below meth c H locs (cz9 + 1) (sz9 + 6) (lw_Z below #[Value.ref b] s) (F0 m 216 ls []) := by
        intro x4 x5 wb wt σ H locs ls hP hD hS hl hp
        unfold q_L_law_216 at hp
        refine lv_aload_n hx hb dL_law_216 rfl (lv_at hl 1 rfl) ?_
        refine lv_iconst (v := 5) hx hb dL_law_217 (by decide) ?_
        refine fw_ciV (As := [.int 5]) (rest := []) hC (c0_X5_house l D k ad hp) (cwV 1 hts (gB_V B_5 (iB_A _ A_318) (iB_A _ A_319) (iB_A _ A_25) (iB_A _ A_298)) rfl rfl rfl (by decide +kernel) ⟨Nat.le_of_ble_eq_true rfl, Nat.le_of_ble_eq_true rfl⟩) (va_recv hK hP (ci := 5) (q0 := 0) rfl rfl) rfl hl.1 rfl (Nat.le_of_ble_eq_true rfl) dL_law_218 ⟨Nat.le_trans (m := 600020) (by omega) (Nat.le_of_ble_eq_true rfl), Nat.le_trans (m := 7000200) (by omega) (Nat.le_of_ble_eq_true rfl)⟩ (P_left hP) (D_left hD) hS (Jn.left hP hD) (fun r110001 σ110002 H locs hP hD hS hp => ?_)
        have hP : va_P D vwCl (W5 k ad (σ110002) ++ KP k wb wt) H := hP
        have hD : va_D A (W5 k ad (σ110002) ++ KP k wb wt) := hD
        refine lv_istore_n (lv' := [(3, .int r110001), (0, .ref b), (1, .ref (ad 0)), (2, .ref (wb 0)), (4, .int x4), (5, .int x5)]) hx hb dL_law_221 rfl hl (by decide) rfl (fun ls hl => ?_)
        refine lv_aload_n hx hb dL_law_222 rfl (lv_at hl 2 rfl) ?_
        refine fw_ciS (As := [.ref (ad 0)]) (rest := []) hC (c_L_isSo l D k ad hp) (va_cwS 1 hts (gB_L B_83 B_84 B_8 B_69) rfl rfl rfl (by decide +kernel) ⟨Nat.le_of_ble_eq_true rfl, Nat.le_of_ble_eq_true rfl⟩) rfl hl.1 rfl (Nat.le_of_ble_eq_true rfl) dL_law_223 ⟨Nat.le_trans (m := 600020) (by omega) (Nat.le_of_ble_eq_true rfl), Nat.le_trans (m := 7000200) (by omega) (Nat.le_of_ble_eq_true rfl)⟩ (P_left hP) (D_left hD) hS (Jn.left hP hD) (fun r110003 σ110004 H locs hP hD hS hp => ?_)
        have hP : va_P D vwCl (W5 k ad (σ110004) ++ KP k wb wt) H := hP
        have hD : va_D A (W5 k ad (σ110004) ++ KP k wb wt) := hD
        refine lv_if_eq (tgt := 236) hx hb dL_law_226 (by decide) (fun c110005 => ?_) (fun c110005 => ?_)
        · have hp := hp.1 c110005
          have hP := P_left hP
          have hD := D_left hD
          refine W.widen (k := 600001) (n := 7000006) (by omega) (by omega) ?_
          exact B_236  (σ110004) _ _ _ hP hD hS (lv_sub hl [] rfl) hp
        · have hp := hp.2 c110005
          refine lv_aload_n hx hb dL_law_229 rfl (lv_at hl 2 rfl) ?_
          refine fw_ciS (As := [.ref (ad 0)]) (rest := []) hC (c_L_isReason l D k ad hp) (va_cwS 1 hts (gB_L B_85 B_86 B_8 B_74) rfl rfl rfl (by decide +kernel) ⟨Nat.le_of_ble_eq_true rfl, Nat.le_of_ble_eq_true rfl⟩) rfl hl.1 rfl (Nat.le_of_ble_eq_true rfl) dL_law_230 ⟨Nat.le_trans (m := 600020) (by omega) (Nat.le_of_ble_eq_true rfl), Nat.le_trans (m := 7000200) (by omega) (Nat.le_of_ble_eq_true rfl)⟩ (P_left hP) (D_left hD) hS (Jn.left hP hD) (fun r110006 σ110007 H locs hP hD hS hp => ?_)
          have hP : va_P D vwCl (W5 k ad (σ110007) ++ KP k wb wt) H := hP
          have hD : va_D A (W5 k ad (σ110007) ++ KP k wb wt) := hD
          refine lv_if_ne (tgt := 238) hx hb dL_law_233 (by decide) (fun c110008 => ?_) (fun c110008 => ?_)
          · have hp := hp.1 c110008
            obtain ⟨v110009, ev110009⟩ : ∃ z : Int32, z = x5 + 1 := ⟨_, rfl⟩
            have hp := hp v110009 ev110009
            refine lv_iinc (v := v110009) (lv' := [(5, .int v110009), (3, .int r110001), (0, .ref b), (1, .ref (ad 0)), (2, .ref (wb 0)), (4, .int x4)]) hx hb dL_law_238 hl (k := 5) rfl (by rw [ev110009]; rfl) (by decide) rfl (fun ls hl => ?_)
            refine lv_goto (tgt := 25) hx hb dL_law_241 (by decide) ?_
            refine W.widen (k := cz9 + 1) (n := sz9 + 6) (by omega) (by omega) ?_
            exact ih_25 (cz9 + 1) (sz9 + 6) ⟨by omega, by omega⟩ r110001 x4 v110009 wb wt (σ110007) _ _ _ hP hD hS (lv_sub hl [2, 3, 4, 1, 5, 0] rfl) hp
          · have hp := hp.2 c110008
            have hP := P_left hP
            have hD := D_left hD
            refine W.widen (k := 600001) (n := 7000006) (by omega) (by omega) ?_
            exact B_236  (σ110007) _ _ _ hP hD hS (lv_sub hl [] rfl) hp
      have B_127 : ∀ (n_127 : Nat) (x3 : Int32) (x4 : Int32) (x5 : Int32) (x8 : Int32) (x9 : Int32) (wb : (Nat → Nat)) (wt : Mem) (σ : Mem) (H : Heap) (locs : List Loc) (ls : Array Slot), va_P D vwCl (W5 k ad (σ) ++ KP k wb wt) H → va_D A (W5 k ad (σ) ++ KP k wb wt) → va_S A s.heap H locs → lv_has ls 12 [(0, .ref b), (1, .ref (ad 0)), (2, .ref (wb 0)), (3, .int x3), (4, .int x4), (5, .int x5), (8, .int x8), (9, .int x9)] → lp_8 (q_L_law_127 L xs (q_L_law_193 L xs) (q_L_law_216 L xs (q_L_law_64 L xs) (q_L_law_115 L xs) (q_L_law_193 L xs) (q_L_law_236 L xs) (q_L_law_244 L xs) (lp_6 (q_L_law_25 L xs (q_L_law_64 L xs) (q_L_law_115 L xs) (q_L_law_193 L xs) (q_L_law_236 L xs) (q_L_law_244 L xs)) n_25))) n_127 x3 x4 x5 x8 x9 wb wt σ → W p l e room_1 s m #[Value.ref b] below meth c H locs (cz9 + 1) (sz9 + 6) (lw_Z below #[Value.ref b] s) (F0 m 127 ls []) := by
        intro n_127
        induction n_127 with
        | zero => intro x3 x4 x5 x8 x9 wb wt σ H locs ls hP hD hS hl hp; exact hp.elim
        | succ n_127 ih_127 =>
          have B_210 : ∀ (x3 : Int32) (x4 : Int32) (x5 : Int32) (x8 : Int32) (x9 : Int32) (wb : (Nat → Nat)) (wt : Mem) (σ : Mem) (H : Heap) (locs : List Loc) (ls : Array Slot), va_P D vwCl (W5 k ad (σ) ++ KP k wb wt) H → va_D A (W5 k ad (σ) ++ KP k wb wt) → va_S A s.heap H locs → lv_has ls 12 [(0, .ref b), (1, .ref (ad 0)), (2, .ref (wb 0)), (3, .int x3), (4, .int x4), (5, .int x5), (8, .int x8), (9, .int x9)] → (q_L_law_210 L xs (q_L_law_193 L xs) (q_L_law_216 L xs (q_L_law_64 L xs) (q_L_law_115 L xs) (q_L_law_193 L xs) (q_L_law_236 L xs) (q_L_law_244 L xs) (lp_6 (q_L_law_25 L xs (q_L_law_64 L xs) (q_L_law_115 L xs) (q_L_law_193 L xs) (q_L_law_236 L xs) (q_L_law_244 L xs)) n_25)) (lp_8 (q_L_law_127 L xs (q_L_law_193 L xs) (q_L_law_216 L xs (q_L_law_64 L xs) (q_L_law_115 L xs) (q_L_law_193 L xs) (q_L_law_236 L xs) (q_L_law_244 L xs) (lp_6 (q_L_law_25 L xs (q_L_law_64 L xs) (q_L_law_115 L xs) (q_L_law_193 L xs) (q_L_law_236 L xs) (q_L_law_244 L xs)) n_25))) n_127)) x3 x4 x5 x8 x9 wb wt σ → W p l e room_1 s m #[Value.ref b] below meth c H locs (cz9 + 1) (sz9 + 6) (lw_Z below #[Value.ref b] s) (F0 m 210 ls []) := by
            intro x3 x4 x5 x8 x9 wb wt σ H locs ls hP hD hS hl hp
            unfold q_L_law_210 at hp
            obtain ⟨v100001, ev100001⟩ : ∃ z : Int32, z = x9 + 1 := ⟨_, rfl⟩
            have hp := hp v100001 ev100001
            refine lv_iinc (v := v100001) (lv' := [(9, .int v100001), (0, .ref b), (1, .ref (ad 0)), (2, .ref (wb 0)), (3, .int x3), (4, .int x4), (5, .int x5), (8, .int x8)]) hx hb dL_law_210 hl (k := 7) rfl (by rw [ev100001]; rfl) (by decide) rfl (fun ls hl => ?_)
            refine lv_goto (tgt := 127) hx hb dL_law_213 (by decide) ?_
            refine W.widen (k := cz9 + 1) (n := sz9 + 6) (by omega) (by omega) ?_
            exact ih_127 x3 x4 x5 x8 v100001 wb wt (σ) _ _ _ hP hD hS (lv_sub hl [1, 2, 3, 4, 5, 6, 7, 0] rfl) hp
          have B_140 : ∀ (n_140 : Nat) (x3 : Int32) (x4 : Int32) (x5 : Int32) (x8 : Int32) (x9 : Int32) (x10 : Int32) (wb : (Nat → Nat)) (wt : Mem) (σ : Mem) (H : Heap) (locs : List Loc) (ls : Array Slot), va_P D vwCl (W5 k ad (σ) ++ KP k wb wt) H → va_D A (W5 k ad (σ) ++ KP k wb wt) → va_S A s.heap H locs → lv_has ls 12 [(0, .ref b), (1, .ref (ad 0)), (2, .ref (wb 0)), (3, .int x3), (4, .int x4), (5, .int x5), (8, .int x8), (9, .int x9), (10, .int x10)] → lp_9 (q_L_law_140 L xs (q_L_law_193 L xs) (q_L_law_210 L xs (q_L_law_193 L xs) (q_L_law_216 L xs (q_L_law_64 L xs) (q_L_law_115 L xs) (q_L_law_193 L xs) (q_L_law_236 L xs) (q_L_law_244 L xs) (lp_6 (q_L_law_25 L xs (q_L_law_64 L xs) (q_L_law_115 L xs) (q_L_law_193 L xs) (q_L_law_236 L xs) (q_L_law_244 L xs)) n_25)) (lp_8 (q_L_law_127 L xs (q_L_law_193 L xs) (q_L_law_216 L xs (q_L_law_64 L xs) (q_L_law_115 L xs) (q_L_law_193 L xs) (q_L_law_236 L xs) (q_L_law_244 L xs) (lp_6 (q_L_law_25 L xs (q_L_law_64 L xs) (q_L_law_115 L xs) (q_L_law_193 L xs) (q_L_law_236 L xs) (q_L_law_244 L xs)) n_25))) n_127))) n_140 x3 x4 x5 x8 x9 x10 wb wt σ → W p l e room_1 s m #[Value.ref b] below meth c H locs (cz9 + 1) (sz9 + 6) (lw_Z below #[Value.ref b] s) (F0 m 140 ls []) := by
            intro n_140
            induction n_140 with
            | zero => intro x3 x4 x5 x8 x9 x10 wb wt σ H locs ls hP hD hS hl hp; exact hp.elim
            | succ n_140 ih_140 =>
              have B_195 : ∀ (x3 : Int32) (x4 : Int32) (x5 : Int32) (x8 : Int32) (x9 : Int32) (x10 : Int32) (x11 : Int32) (wb : (Nat → Nat)) (wt : Mem) (σ : Mem) (H : Heap) (locs : List Loc) (ls : Array Slot), va_P D vwCl (W5 k ad (σ) ++ KP k wb wt) H → va_D A (W5 k ad (σ) ++ KP k wb wt) → va_S A s.heap H locs → lv_has ls 12 [(0, .ref b), (1, .ref (ad 0)), (2, .ref (wb 0)), (3, .int x3), (4, .int x4), (5, .int x5), (8, .int x8), (9, .int x9), (10, .int x10), (11, .int x11)] → (q_L_law_195 L xs (q_L_law_193 L xs) (q_L_law_210 L xs (q_L_law_193 L xs) (q_L_law_216 L xs (q_L_law_64 L xs) (q_L_law_115 L xs) (q_L_law_193 L xs) (q_L_law_236 L xs) (q_L_law_244 L xs) (lp_6 (q_L_law_25 L xs (q_L_law_64 L xs) (q_L_law_115 L xs) (q_L_law_193 L xs) (q_L_law_236 L xs) (q_L_law_244 L xs)) n_25)) (lp_8 (q_L_law_127 L xs (q_L_law_193 L xs) (q_L_law_216 L xs (q_L_law_64 L xs) (q_L_law_115 L xs) (q_L_law_193 L xs) (q_L_law_236 L xs) (q_L_law_244 L xs) (lp_6 (q_L_law_25 L xs (q_L_law_64 L xs) (q_L_law_115 L xs) (q_L_law_193 L xs) (q_L_law_236 L xs) (q_L_law_244 L xs)) n_25))) n_127)) (lp_9 (q_L_law_140 L xs (q_L_law_193 L xs) (q_L_law_210 L xs (q_L_law_193 L xs) (q_L_law_216 L xs (q_L_law_64 L xs) (q_L_law_115 L xs) (q_L_law_193 L xs) (q_L_law_236 L xs) (q_L_law_244 L xs) (lp_6 (q_L_law_25 L xs (q_L_law_64 L xs) (q_L_law_115 L xs) (q_L_law_193 L xs) (q_L_law_236 L xs) (q_L_law_244 L xs)) n_25)) (lp_8 (q_L_law_127 L xs (q_L_law_193 L xs) (q_L_law_216 L xs (q_L_law_64 L xs) (q_L_law_115 L xs) (q_L_law_193 L xs) (q_L_law_236 L xs) (q_L_law_244 L xs) (lp_6 (q_L_law_25 L xs (q_L_law_64 L xs) (q_L_law_115 L xs) (q_L_law_193 L xs) (q_L_law_236 L xs) (q_L_law_244 L xs)) n_25))) n_127))) n_140)) x3 x4 x5 x8 x9 x10 x11 wb wt σ → W p l e room_1 s m #[Value.ref b] below meth c H locs (cz9 + 1) (sz9 + 6) (lw_Z below #[Value.ref b] s) (F0 m 195 ls []) := by
                intro x3 x4 x5 x8 x9 x10 x11 wb wt σ H locs ls hP hD hS hl hp
                unfold q_L_law_195 at hp
                refine lv_aload_n hx hb dL_law_195 rfl (lv_at hl 2 rfl) ?_
                refine lv_iload hx hb dL_law_196 (lv_at hl 7 rfl) ?_
                obtain ⟨h90001, hp⟩ := hp
                refine va_ald2 hx hb hK hP 45 2 rfl rfl h90001 (if_some (vin_lt h90001) _) dL_law_198 ?_
                refine lv_iload hx hb dL_law_199 (lv_at hl 8 rfl) ?_
                refine lv_iload hx hb dL_law_201 (lv_at hl 9 rfl) ?_
                obtain ⟨h90002, hp⟩ := hp
                refine va_iast hx hb hK hP hD hS (46 + x9.toNatClampNeg) 0 (KP_get k ad (σ) wb wt (vin_lt h90001)) rfl h90002 dL_law_203 (fun H locs hP hD hS => ?_)
                rw [KP_set k ad (σ) wb wt (vin_lt h90001)] at hP hD
                obtain ⟨κ90003, eκ90003⟩ : ∃ z : Mem, z = mup wt x9.toNatClampNeg (upd (wt x9.toNatClampNeg) x10.toNatClampNeg x11) := ⟨_, rfl⟩
                have hp := hp κ90003 eκ90003
                have hP : va_P D vwCl (W5 k ad (σ) ++ KP k wb κ90003) H := by rw [eκ90003]; exact hP
                have hD : va_D A (W5 k ad (σ) ++ KP k wb κ90003) := by rw [eκ90003]; exact hD
                obtain ⟨v90004, ev90004⟩ : ∃ z : Int32, z = x10 + 1 := ⟨_, rfl⟩
                have hp := hp v90004 ev90004
                refine lv_iinc (v := v90004) (lv' := [(10, .int v90004), (0, .ref b), (1, .ref (ad 0)), (2, .ref (wb 0)), (3, .int x3), (4, .int x4), (5, .int x5), (8, .int x8), (9, .int x9), (11, .int x11)]) hx hb dL_law_204 hl (k := 8) rfl (by rw [ev90004]; rfl) (by decide) rfl (fun ls hl => ?_)
                refine lv_goto (tgt := 140) hx hb dL_law_207 (by decide) ?_
                refine W.widen (k := cz9 + 1) (n := sz9 + 6) (by omega) (by omega) ?_
                exact ih_140 x3 x4 x5 x8 x9 v90004 wb (κ90003) (σ) _ _ _ hP hD hS (lv_sub hl [1, 2, 3, 4, 5, 6, 7, 8, 0] rfl) hp
              have B_175 : ∀ (x3 : Int32) (x4 : Int32) (x5 : Int32) (x8 : Int32) (x9 : Int32) (x10 : Int32) (x11 : Int32) (wb : (Nat → Nat)) (wt : Mem) (σ : Mem) (H : Heap) (locs : List Loc) (ls : Array Slot), va_P D vwCl (W5 k ad (σ) ++ KP k wb wt) H → va_D A (W5 k ad (σ) ++ KP k wb wt) → va_S A s.heap H locs → lv_has ls 12 [(0, .ref b), (1, .ref (ad 0)), (2, .ref (wb 0)), (3, .int x3), (4, .int x4), (5, .int x5), (8, .int x8), (9, .int x9), (10, .int x10), (11, .int x11)] → (q_L_law_175 L xs (q_L_law_193 L xs) (q_L_law_210 L xs (q_L_law_193 L xs) (q_L_law_216 L xs (q_L_law_64 L xs) (q_L_law_115 L xs) (q_L_law_193 L xs) (q_L_law_236 L xs) (q_L_law_244 L xs) (lp_6 (q_L_law_25 L xs (q_L_law_64 L xs) (q_L_law_115 L xs) (q_L_law_193 L xs) (q_L_law_236 L xs) (q_L_law_244 L xs)) n_25)) (lp_8 (q_L_law_127 L xs (q_L_law_193 L xs) (q_L_law_216 L xs (q_L_law_64 L xs) (q_L_law_115 L xs) (q_L_law_193 L xs) (q_L_law_236 L xs) (q_L_law_244 L xs) (lp_6 (q_L_law_25 L xs (q_L_law_64 L xs) (q_L_law_115 L xs) (q_L_law_193 L xs) (q_L_law_236 L xs) (q_L_law_244 L xs)) n_25))) n_127)) (lp_9 (q_L_law_140 L xs (q_L_law_193 L xs) (q_L_law_210 L xs (q_L_law_193 L xs) (q_L_law_216 L xs (q_L_law_64 L xs) (q_L_law_115 L xs) (q_L_law_193 L xs) (q_L_law_236 L xs) (q_L_law_244 L xs) (lp_6 (q_L_law_25 L xs (q_L_law_64 L xs) (q_L_law_115 L xs) (q_L_law_193 L xs) (q_L_law_236 L xs) (q_L_law_244 L xs)) n_25)) (lp_8 (q_L_law_127 L xs (q_L_law_193 L xs) (q_L_law_216 L xs (q_L_law_64 L xs) (q_L_law_115 L xs) (q_L_law_193 L xs) (q_L_law_236 L xs) (q_L_law_244 L xs) (lp_6 (q_L_law_25 L xs (q_L_law_64 L xs) (q_L_law_115 L xs) (q_L_law_193 L xs) (q_L_law_236 L xs) (q_L_law_244 L xs)) n_25))) n_127))) n_140)) x3 x4 x5 x8 x9 x10 x11 wb wt σ → W p l e room_1 s m #[Value.ref b] below meth c H locs (cz9 + 1) (sz9 + 6) (lw_Z below #[Value.ref b] s) (F0 m 175 ls []) := by
                intro x3 x4 x5 x8 x9 x10 x11 wb wt σ H locs ls hP hD hS hl hp
                unfold q_L_law_175 at hp
                refine lv_iload hx hb dL_law_175 (lv_at hl 7 rfl) ?_
                refine lv_iload_n hx hb dL_law_177 rfl (lv_at hl 3 rfl) ?_
                refine lv_icmp_lt (tgt := 195) hx hb dL_law_178 (by decide) (fun c70001 => ?_) (fun c70001 => ?_)
                · have hp := hp.1 c70001
                  refine W.widen (k := cz9 + 1) (n := sz9 + 6) (by omega) (by omega) ?_
                  exact B_195 x3 x4 x5 x8 x9 x10 x11 wb wt (σ) _ _ _ hP hD hS (lv_sub hl [0, 1, 2, 3, 4, 5, 6, 7, 8, 9] rfl) hp
                · have hp := hp.2 c70001
                  refine lv_iload hx hb dL_law_181 (lv_at hl 9 rfl) ?_
                  refine lv_aload_n hx hb dL_law_183 rfl (lv_at hl 1 rfl) ?_
                  refine lv_iload hx hb dL_law_184 (lv_at hl 8 rfl) ?_
                  refine lv_iconst (v := 3) hx hb dL_law_186 (by decide) ?_
                  refine fw_ciV (As := [.int x10, .int 3]) (rest := [.int x11]) hC (c0_X5_ofField l D k ad hp) (cwV 2 hts (gB_V B_9 (iB_A _ A_321) (iB_A _ A_322) (iB_A _ A_25) (iB_A _ A_272)) rfl rfl rfl (by decide +kernel) ⟨Nat.le_of_ble_eq_true rfl, Nat.le_of_ble_eq_true rfl⟩) (va_recv hK hP (ci := 5) (q0 := 0) rfl rfl) rfl hl.1 rfl (Nat.le_of_ble_eq_true rfl) dL_law_187 ⟨Nat.le_trans (m := 600020) (by omega) (Nat.le_of_ble_eq_true rfl), Nat.le_trans (m := 7000200) (by omega) (Nat.le_of_ble_eq_true rfl)⟩ (P_left hP) (D_left hD) hS (Jn.left hP hD) (fun r70002 σ70003 H locs hP hD hS hp => ?_)
                  have hP : va_P D vwCl (W5 k ad (σ70003) ++ KP k wb wt) H := hP
                  have hD : va_D A (W5 k ad (σ70003) ++ KP k wb wt) := hD
                  refine lv_icmp_eq (tgt := 195) hx hb dL_law_190 (by decide) (fun c70004 => ?_) (fun c70004 => ?_)
                  · have hp := hp.1 c70004
                    refine W.widen (k := cz9 + 1) (n := sz9 + 6) (by omega) (by omega) ?_
                    exact B_195 x3 x4 x5 x8 x9 x10 x11 wb wt (σ70003) _ _ _ hP hD hS (lv_sub hl [0, 1, 2, 3, 4, 5, 6, 7, 8, 9] rfl) hp
                  · have hp := hp.2 c70004
                    have hP := P_left hP
                    have hD := D_left hD
                    refine W.widen (k := 600001) (n := 7000006) (by omega) (by omega) ?_
                    exact B_193  (σ70003) _ _ _ hP hD hS (lv_sub hl [] rfl) hp
              intro x3 x4 x5 x8 x9 x10 wb wt σ H locs ls hP hD hS hl hp
              have hp : q_L_law_140 L xs (q_L_law_193 L xs) (q_L_law_210 L xs (q_L_law_193 L xs) (q_L_law_216 L xs (q_L_law_64 L xs) (q_L_law_115 L xs) (q_L_law_193 L xs) (q_L_law_236 L xs) (q_L_law_244 L xs) (lp_6 (q_L_law_25 L xs (q_L_law_64 L xs) (q_L_law_115 L xs) (q_L_law_193 L xs) (q_L_law_236 L xs) (q_L_law_244 L xs)) n_25)) (lp_8 (q_L_law_127 L xs (q_L_law_193 L xs) (q_L_law_216 L xs (q_L_law_64 L xs) (q_L_law_115 L xs) (q_L_law_193 L xs) (q_L_law_236 L xs) (q_L_law_244 L xs) (lp_6 (q_L_law_25 L xs (q_L_law_64 L xs) (q_L_law_115 L xs) (q_L_law_193 L xs) (q_L_law_236 L xs) (q_L_law_244 L xs)) n_25))) n_127)) (lp_9 (q_L_law_140 L xs (q_L_law_193 L xs) (q_L_law_210 L xs (q_L_law_193 L xs) (q_L_law_216 L xs (q_L_law_64 L xs) (q_L_law_115 L xs) (q_L_law_193 L xs) (q_L_law_236 L xs) (q_L_law_244 L xs) (lp_6 (q_L_law_25 L xs (q_L_law_64 L xs) (q_L_law_115 L xs) (q_L_law_193 L xs) (q_L_law_236 L xs) (q_L_law_244 L xs)) n_25)) (lp_8 (q_L_law_127 L xs (q_L_law_193 L xs) (q_L_law_216 L xs (q_L_law_64 L xs) (q_L_law_115 L xs) (q_L_law_193 L xs) (q_L_law_236 L xs) (q_L_law_244 L xs) (lp_6 (q_L_law_25 L xs (q_L_law_64 L xs) (q_L_law_115 L xs) (q_L_law_193 L xs) (q_L_law_236 L xs) (q_L_law_244 L xs)) n_25))) n_127))) n_140) x3 x4 x5 x8 x9 x10 wb wt σ := hp
              unfold q_L_law_140 at hp
              refine lv_iload hx hb dL_law_140 (lv_at hl 8 rfl) ?_
              refine lv_iload hx hb dL_law_142 (lv_at hl 6 rfl) ?_
              refine lv_icmp_ge (tgt := 210) hx hb dL_law_144 (by decide) (fun c60001 => ?_) (fun c60001 => ?_)
              · have hp := hp.1 c60001
                refine W.widen (k := cz9 + 1) (n := sz9 + 6) (by omega) (by omega) ?_
                exact B_210 x3 x4 x5 x8 x9 wb wt (σ) _ _ _ hP hD hS (lv_sub hl [0, 1, 2, 3, 4, 5, 6, 7] rfl) hp
              · have hp := hp.2 c60001
                refine lv_aload_n hx hb dL_law_147 rfl (lv_at hl 1 rfl) ?_
                refine lv_iload hx hb dL_law_148 (lv_at hl 7 rfl) ?_
                refine lv_iload hx hb dL_law_150 (lv_at hl 8 rfl) ?_
                refine fw_ciV (As := [.int x9, .int x10]) (rest := []) hC (c0_X5_ofCommit l D k ad hp) (cwV 2 hts (gB_V B_68 (iB_A _ A_314) (iB_A _ A_315) (iB_A _ A_25) (iB_A _ A_286)) rfl rfl rfl (by decide +kernel) ⟨Nat.le_of_ble_eq_true rfl, Nat.le_of_ble_eq_true rfl⟩) (va_recv hK hP (ci := 5) (q0 := 0) rfl rfl) rfl hl.1 rfl (Nat.le_of_ble_eq_true rfl) dL_law_152 ⟨Nat.le_trans (m := 600020) (by omega) (Nat.le_of_ble_eq_true rfl), Nat.le_trans (m := 7000200) (by omega) (Nat.le_of_ble_eq_true rfl)⟩ (P_left hP) (D_left hD) hS (Jn.left hP hD) (fun r60002 σ60003 H locs hP hD hS hp => ?_)
                have hP : va_P D vwCl (W5 k ad (σ60003) ++ KP k wb wt) H := hP
                have hD : va_D A (W5 k ad (σ60003) ++ KP k wb wt) := hD
                refine lv_istore (lv' := [(11, .int r60002), (0, .ref b), (1, .ref (ad 0)), (2, .ref (wb 0)), (3, .int x3), (4, .int x4), (5, .int x5), (8, .int x8), (9, .int x9), (10, .int x10)]) hx hb dL_law_155 hl (by decide) rfl (fun ls hl => ?_)
                refine lv_iload hx hb dL_law_157 (lv_at hl 8 rfl) ?_
                refine lv_iload_n hx hb dL_law_159 rfl (lv_at hl 4 rfl) ?_
                refine lv_icmp_ge (tgt := 175) hx hb dL_law_160 (by decide) (fun c60004 => ?_) (fun c60004 => ?_)
                · have hp := hp.1 c60004
                  refine W.widen (k := cz9 + 1) (n := sz9 + 6) (by omega) (by omega) ?_
                  exact B_175 x3 x4 x5 x8 x9 x10 r60002 wb wt (σ60003) _ _ _ hP hD hS (lv_sub hl [1, 2, 3, 4, 5, 6, 7, 8, 9, 0] rfl) hp
                · have hp := hp.2 c60004
                  refine lv_iload hx hb dL_law_163 (lv_at hl 0 rfl) ?_
                  refine lv_aload_n hx hb dL_law_165 rfl (lv_at hl 3 rfl) ?_
                  refine lv_iload hx hb dL_law_166 (lv_at hl 8 rfl) ?_
                  obtain ⟨h60005, hp⟩ := hp
                  refine va_ald2 hx hb hK hP 45 2 rfl rfl h60005 (if_some (vin_lt h60005) _) dL_law_168 ?_
                  refine lv_iload hx hb dL_law_169 (lv_at hl 9 rfl) ?_
                  obtain ⟨h60006, hp⟩ := hp
                  refine va_iald hx hb hK hP (46 + x9.toNatClampNeg) 0 (KP_get k ad (σ60003) wb wt (vin_lt h60005)) rfl h60006 dL_law_171 ?_
                  refine lv_icmp_ne (tgt := 193) hx hb dL_law_172 (by decide) (fun c60007 => ?_) (fun c60007 => ?_)
                  · have hp := hp.1 c60007
                    have hP := P_left hP
                    have hD := D_left hD
                    refine W.widen (k := 600001) (n := 7000006) (by omega) (by omega) ?_
                    exact B_193  (σ60003) _ _ _ hP hD hS (lv_sub hl [] rfl) hp
                  · have hp := hp.2 c60007
                    refine W.widen (k := cz9 + 1) (n := sz9 + 6) (by omega) (by omega) ?_
                    exact B_175 x3 x4 x5 x8 x9 x10 r60002 wb wt (σ60003) _ _ _ hP hD hS (lv_sub hl [1, 2, 3, 4, 5, 6, 7, 8, 9, 0] rfl) hp
          intro x3 x4 x5 x8 x9 wb wt σ H locs ls hP hD hS hl hp
          have hp : q_L_law_127 L xs (q_L_law_193 L xs) (q_L_law_216 L xs (q_L_law_64 L xs) (q_L_law_115 L xs) (q_L_law_193 L xs) (q_L_law_236 L xs) (q_L_law_244 L xs) (lp_6 (q_L_law_25 L xs (q_L_law_64 L xs) (q_L_law_115 L xs) (q_L_law_193 L xs) (q_L_law_236 L xs) (q_L_law_244 L xs)) n_25)) (lp_8 (q_L_law_127 L xs (q_L_law_193 L xs) (q_L_law_216 L xs (q_L_law_64 L xs) (q_L_law_115 L xs) (q_L_law_193 L xs) (q_L_law_236 L xs) (q_L_law_244 L xs) (lp_6 (q_L_law_25 L xs (q_L_law_64 L xs) (q_L_law_115 L xs) (q_L_law_193 L xs) (q_L_law_236 L xs) (q_L_law_244 L xs)) n_25))) n_127) x3 x4 x5 x8 x9 wb wt σ := hp
          unfold q_L_law_127 at hp
          refine lv_iload hx hb dL_law_127 (lv_at hl 7 rfl) ?_
          refine lv_aload_n hx hb dL_law_129 rfl (lv_at hl 1 rfl) ?_
          refine lv_iconst (v := 5) hx hb dL_law_130 (by decide) ?_
          refine fw_ciV (As := [.int 5]) (rest := [.int x9]) hC (c0_X5_house l D k ad hp) (cwV 1 hts (gB_V B_5 (iB_A _ A_318) (iB_A _ A_319) (iB_A _ A_25) (iB_A _ A_298)) rfl rfl rfl (by decide +kernel) ⟨Nat.le_of_ble_eq_true rfl, Nat.le_of_ble_eq_true rfl⟩) (va_recv hK hP (ci := 5) (q0 := 0) rfl rfl) rfl hl.1 rfl (Nat.le_of_ble_eq_true rfl) dL_law_131 ⟨Nat.le_trans (m := 600020) (by omega) (Nat.le_of_ble_eq_true rfl), Nat.le_trans (m := 7000200) (by omega) (Nat.le_of_ble_eq_true rfl)⟩ (P_left hP) (D_left hD) hS (Jn.left hP hD) (fun r50001 σ50002 H locs hP hD hS hp => ?_)
          have hP : va_P D vwCl (W5 k ad (σ50002) ++ KP k wb wt) H := hP
          have hD : va_D A (W5 k ad (σ50002) ++ KP k wb wt) := hD
          refine lv_icmp_ge (tgt := 216) hx hb dL_law_134 (by decide) (fun c50003 => ?_) (fun c50003 => ?_)
          · have hp := hp.1 c50003
            refine W.widen (k := cz9 + 1) (n := sz9 + 6) (by omega) (by omega) ?_
            exact B_216 x4 x5 wb wt (σ50002) _ _ _ hP hD hS (lv_sub hl [0, 1, 2, 4, 5] rfl) hp
          · have hp := hp.2 c50003
            refine lv_iconst (v := 0) hx hb dL_law_137 (by decide) ?_
            refine lv_istore (lv' := [(10, .int 0), (0, .ref b), (1, .ref (ad 0)), (2, .ref (wb 0)), (3, .int x3), (4, .int x4), (5, .int x5), (8, .int x8), (9, .int x9)]) hx hb dL_law_138 hl (by decide) rfl (fun ls hl => ?_)
            refine W.widen (k := cz9 + 1) (n := sz9 + 6) (by omega) (by omega) ?_
            obtain ⟨n9, hp⟩ := hp
            exact B_140 n9 x3 x4 x5 x8 x9 0 wb wt (σ50002) _ _ _ hP hD hS (lv_sub hl [1, 2, 3, 4, 5, 6, 7, 8, 0] rfl) hp
      have B_66 : ∀ (x3 : Int32) (x4 : Int32) (x5 : Int32) (wb : (Nat → Nat)) (wt : Mem) (σ : Mem) (H : Heap) (locs : List Loc) (ls : Array Slot), va_P D vwCl (W5 k ad (σ) ++ KP k wb wt) H → va_D A (W5 k ad (σ) ++ KP k wb wt) → va_S A s.heap H locs → lv_has ls 12 [(0, .ref b), (1, .ref (ad 0)), (2, .ref (wb 0)), (3, .int x3), (4, .int x4), (5, .int x5)] → (q_L_law_66 L xs (q_L_law_64 L xs) (q_L_law_115 L xs) (q_L_law_193 L xs) (q_L_law_236 L xs) (q_L_law_244 L xs) (lp_6 (q_L_law_25 L xs (q_L_law_64 L xs) (q_L_law_115 L xs) (q_L_law_193 L xs) (q_L_law_236 L xs) (q_L_law_244 L xs)) n_25)) x3 x4 x5 wb wt σ → W p l e room_1 s m #[Value.ref b] below meth c H locs (cz9 + 1) (sz9 + 6) (lw_Z below #[Value.ref b] s) (F0 m 66 ls []) := by
        intro x3 x4 x5 wb wt σ H locs ls hP hD hS hl hp
        unfold q_L_law_66 at hp
        refine lv_aload_n hx hb dL_law_66 rfl (lv_at hl 1 rfl) ?_
        refine lv_iconst (v := 0) hx hb dL_law_67 (by decide) ?_
        refine fw_ciV (As := [.int 0]) (rest := []) hC (c0_X5_house l D k ad hp) (cwV 1 hts (gB_V B_5 (iB_A _ A_318) (iB_A _ A_319) (iB_A _ A_25) (iB_A _ A_298)) rfl rfl rfl (by decide +kernel) ⟨Nat.le_of_ble_eq_true rfl, Nat.le_of_ble_eq_true rfl⟩) (va_recv hK hP (ci := 5) (q0 := 0) rfl rfl) rfl hl.1 rfl (Nat.le_of_ble_eq_true rfl) dL_law_68 ⟨Nat.le_trans (m := 600020) (by omega) (Nat.le_of_ble_eq_true rfl), Nat.le_trans (m := 7000200) (by omega) (Nat.le_of_ble_eq_true rfl)⟩ (P_left hP) (D_left hD) hS (Jn.left hP hD) (fun r30001 σ30002 H locs hP hD hS hp => ?_)
        have hP : va_P D vwCl (W5 k ad (σ30002) ++ KP k wb wt) H := hP
        have hD : va_D A (W5 k ad (σ30002) ++ KP k wb wt) := hD
        refine lv_istore (lv' := [(8, .int r30001), (0, .ref b), (1, .ref (ad 0)), (2, .ref (wb 0)), (3, .int x3), (4, .int x4), (5, .int x5)]) hx hb dL_law_71 hl (by decide) rfl (fun ls hl => ?_)
        refine lv_aload_n hx hb dL_law_73 rfl (lv_at hl 2 rfl) ?_
        refine lv_iconst (v := 1) hx hb dL_law_74 (by decide) ?_
        refine fw_ciV (As := [.int 1]) (rest := []) hC (c0_X5_house l D k ad hp) (cwV 1 hts (gB_V B_5 (iB_A _ A_318) (iB_A _ A_319) (iB_A _ A_25) (iB_A _ A_298)) rfl rfl rfl (by decide +kernel) ⟨Nat.le_of_ble_eq_true rfl, Nat.le_of_ble_eq_true rfl⟩) (va_recv hK hP (ci := 5) (q0 := 0) rfl rfl) rfl hl.1 rfl (Nat.le_of_ble_eq_true rfl) dL_law_75 ⟨Nat.le_trans (m := 600020) (by omega) (Nat.le_of_ble_eq_true rfl), Nat.le_trans (m := 7000200) (by omega) (Nat.le_of_ble_eq_true rfl)⟩ (P_left hP) (D_left hD) hS (Jn.left hP hD) (fun r30003 σ30004 H locs hP hD hS hp => ?_)
        have hP : va_P D vwCl (W5 k ad (σ30004) ++ KP k wb wt) H := hP
        have hD : va_D A (W5 k ad (σ30004) ++ KP k wb wt) := hD
        refine lv_iload hx hb dL_law_78 (lv_at hl 5 rfl) ?_
        refine lv_icmp_lt (tgt := 115) hx hb dL_law_80 (by decide) (fun c30005 => ?_) (fun c30005 => ?_)
        · have hp := hp.1 c30005
          have hP := P_left hP
          have hD := D_left hD
          refine W.widen (k := 600001) (n := 7000006) (by omega) (by omega) ?_
          exact B_115  (σ30004) _ _ _ hP hD hS (lv_sub hl [] rfl) hp
        · have hp := hp.2 c30005
          refine lv_aload_n hx hb dL_law_83 rfl (lv_at hl 2 rfl) ?_
          refine lv_iconst (v := 1) hx hb dL_law_84 (by decide) ?_
          refine fw_ciV (As := [.int 1]) (rest := []) hC (c0_X5_house l D k ad hp) (cwV 1 hts (gB_V B_5 (iB_A _ A_318) (iB_A _ A_319) (iB_A _ A_25) (iB_A _ A_298)) rfl rfl rfl (by decide +kernel) ⟨Nat.le_of_ble_eq_true rfl, Nat.le_of_ble_eq_true rfl⟩) (va_recv hK hP (ci := 5) (q0 := 0) rfl rfl) rfl hl.1 rfl (Nat.le_of_ble_eq_true rfl) dL_law_85 ⟨Nat.le_trans (m := 600020) (by omega) (Nat.le_of_ble_eq_true rfl), Nat.le_trans (m := 7000200) (by omega) (Nat.le_of_ble_eq_true rfl)⟩ (P_left hP) (D_left hD) hS (Jn.left hP hD) (fun r30006 σ30007 H locs hP hD hS hp => ?_)
          have hP : va_P D vwCl (W5 k ad (σ30007) ++ KP k wb wt) H := hP
          have hD : va_D A (W5 k ad (σ30007) ++ KP k wb wt) := hD
          refine lv_iload hx hb dL_law_88 (lv_at hl 5 rfl) ?_
          refine lv_iconst (v := 1) hx hb dL_law_90 (by decide) ?_
          refine lv_iadd hx hb dL_law_91 ?_
          refine lv_icmp_gt (tgt := 115) hx hb dL_law_92 (by decide) (fun c30008 => ?_) (fun c30008 => ?_)
          · have hp := hp.1 c30008
            have hP := P_left hP
            have hD := D_left hD
            refine W.widen (k := 600001) (n := 7000006) (by omega) (by omega) ?_
            exact B_115  (σ30007) _ _ _ hP hD hS (lv_sub hl [] rfl) hp
          · have hp := hp.2 c30008
            refine lv_aload_n hx hb dL_law_95 rfl (lv_at hl 2 rfl) ?_
            refine lv_iconst (v := 5) hx hb dL_law_96 (by decide) ?_
            refine fw_ciV (As := [.int 5]) (rest := []) hC (c0_X5_house l D k ad hp) (cwV 1 hts (gB_V B_5 (iB_A _ A_318) (iB_A _ A_319) (iB_A _ A_25) (iB_A _ A_298)) rfl rfl rfl (by decide +kernel) ⟨Nat.le_of_ble_eq_true rfl, Nat.le_of_ble_eq_true rfl⟩) (va_recv hK hP (ci := 5) (q0 := 0) rfl rfl) rfl hl.1 rfl (Nat.le_of_ble_eq_true rfl) dL_law_97 ⟨Nat.le_trans (m := 600020) (by omega) (Nat.le_of_ble_eq_true rfl), Nat.le_trans (m := 7000200) (by omega) (Nat.le_of_ble_eq_true rfl)⟩ (P_left hP) (D_left hD) hS (Jn.left hP hD) (fun r30009 σ30010 H locs hP hD hS hp => ?_)
            have hP : va_P D vwCl (W5 k ad (σ30010) ++ KP k wb wt) H := hP
            have hD : va_D A (W5 k ad (σ30010) ++ KP k wb wt) := hD
            refine lv_iload_n hx hb dL_law_100 rfl (lv_at hl 4 rfl) ?_
            refine lv_icmp_lt (tgt := 115) hx hb dL_law_101 (by decide) (fun c30011 => ?_) (fun c30011 => ?_)
            · have hp := hp.1 c30011
              have hP := P_left hP
              have hD := D_left hD
              refine W.widen (k := 600001) (n := 7000006) (by omega) (by omega) ?_
              exact B_115  (σ30010) _ _ _ hP hD hS (lv_sub hl [] rfl) hp
            · have hp := hp.2 c30011
              refine lv_aload_n hx hb dL_law_104 rfl (lv_at hl 2 rfl) ?_
              refine lv_iconst (v := 5) hx hb dL_law_105 (by decide) ?_
              refine fw_ciV (As := [.int 5]) (rest := []) hC (c0_X5_house l D k ad hp) (cwV 1 hts (gB_V B_5 (iB_A _ A_318) (iB_A _ A_319) (iB_A _ A_25) (iB_A _ A_298)) rfl rfl rfl (by decide +kernel) ⟨Nat.le_of_ble_eq_true rfl, Nat.le_of_ble_eq_true rfl⟩) (va_recv hK hP (ci := 5) (q0 := 0) rfl rfl) rfl hl.1 rfl (Nat.le_of_ble_eq_true rfl) dL_law_106 ⟨Nat.le_trans (m := 600020) (by omega) (Nat.le_of_ble_eq_true rfl), Nat.le_trans (m := 7000200) (by omega) (Nat.le_of_ble_eq_true rfl)⟩ (P_left hP) (D_left hD) hS (Jn.left hP hD) (fun r30012 σ30013 H locs hP hD hS hp => ?_)
              have hP : va_P D vwCl (W5 k ad (σ30013) ++ KP k wb wt) H := hP
              have hD : va_D A (W5 k ad (σ30013) ++ KP k wb wt) := hD
              refine lv_iload_n hx hb dL_law_109 rfl (lv_at hl 4 rfl) ?_
              refine lv_iconst (v := 1) hx hb dL_law_110 (by decide) ?_
              refine lv_iadd hx hb dL_law_111 ?_
              refine lv_icmp_le (tgt := 117) hx hb dL_law_112 (by decide) (fun c30014 => ?_) (fun c30014 => ?_)
              · have hp := hp.1 c30014
                refine lv_aload_n hx hb dL_law_117 rfl (lv_at hl 2 rfl) ?_
                refine lv_iconst (v := 1) hx hb dL_law_118 (by decide) ?_
                refine fw_ciV (As := [.int 1]) (rest := []) hC (c0_X5_house l D k ad hp) (cwV 1 hts (gB_V B_5 (iB_A _ A_318) (iB_A _ A_319) (iB_A _ A_25) (iB_A _ A_298)) rfl rfl rfl (by decide +kernel) ⟨Nat.le_of_ble_eq_true rfl, Nat.le_of_ble_eq_true rfl⟩) (va_recv hK hP (ci := 5) (q0 := 0) rfl rfl) rfl hl.1 rfl (Nat.le_of_ble_eq_true rfl) dL_law_119 ⟨Nat.le_trans (m := 600020) (by omega) (Nat.le_of_ble_eq_true rfl), Nat.le_trans (m := 7000200) (by omega) (Nat.le_of_ble_eq_true rfl)⟩ (P_left hP) (D_left hD) hS (Jn.left hP hD) (fun r30015 σ30016 H locs hP hD hS hp => ?_)
                have hP : va_P D vwCl (W5 k ad (σ30016) ++ KP k wb wt) H := hP
                have hD : va_D A (W5 k ad (σ30016) ++ KP k wb wt) := hD
                refine lv_istore (lv' := [(4, .int r30015), (8, .int r30001), (0, .ref b), (1, .ref (ad 0)), (2, .ref (wb 0)), (3, .int x3), (5, .int x5)]) hx hb dL_law_122 hl (by decide) rfl (fun ls hl => ?_)
                refine lv_iconst (v := 0) hx hb dL_law_124 (by decide) ?_
                refine lv_istore (lv' := [(9, .int 0), (4, .int r30015), (8, .int r30001), (0, .ref b), (1, .ref (ad 0)), (2, .ref (wb 0)), (3, .int x3), (5, .int x5)]) hx hb dL_law_125 hl (by decide) rfl (fun ls hl => ?_)
                refine W.widen (k := cz9 + 1) (n := sz9 + 6) (by omega) (by omega) ?_
                obtain ⟨n9, hp⟩ := hp
                exact B_127 n9 x3 r30015 x5 r30001 0 wb wt (σ30016) _ _ _ hP hD hS (lv_sub hl [3, 4, 5, 6, 1, 7, 2, 0] rfl) hp
              · have hp := hp.2 c30014
                have hP := P_left hP
                have hD := D_left hD
                refine W.widen (k := 600001) (n := 7000006) (by omega) (by omega) ?_
                exact B_115  (σ30013) _ _ _ hP hD hS (lv_sub hl [] rfl) hp
      intro x3 x4 x5 wb wt σ H locs ls hP hD hS hl hp
      have hp : q_L_law_25 L xs (q_L_law_64 L xs) (q_L_law_115 L xs) (q_L_law_193 L xs) (q_L_law_236 L xs) (q_L_law_244 L xs) (lp_6 (q_L_law_25 L xs (q_L_law_64 L xs) (q_L_law_115 L xs) (q_L_law_193 L xs) (q_L_law_236 L xs) (q_L_law_244 L xs)) n_25) x3 x4 x5 wb wt σ := hp
      unfold q_L_law_25 at hp
      refine lv_iload hx hb dL_law_25 (lv_at hl 5 rfl) ?_
      refine lv_bipush (v := 18) hx hb dL_law_27 (by decide) ?_
      refine lv_icmp_ge (tgt := 244) hx hb dL_law_29 (by decide) (fun c10001 => ?_) (fun c10001 => ?_)
      · have hp := hp.1 c10001
        have hP := P_left hP
        have hD := D_left hD
        refine W.widen (k := 600000) (n := 7000000) (by omega) (by omega) ?_
        exact B_244  (σ) _ _ _ hP hD hS (lv_sub hl [1] rfl) hp
      · have hp := hp.2 c10001
        refine lv_aload_n hx hb dL_law_32 rfl (lv_at hl 1 rfl) ?_
        refine fw_clV (As := []) (rest := []) hC (c_X5_digest l D k ad hp) (cwV 0 hts (gB_V B_78 B_79 B_80 (iB_A _ A_25) (iB_A _ A_338)) rfl rfl rfl (by decide +kernel) ⟨Nat.le_of_ble_eq_true rfl, Nat.le_of_ble_eq_true rfl⟩) (va_recv hK hP (ci := 5) (q0 := 0) rfl rfl) rfl hl.1 rfl (Nat.le_of_ble_eq_true rfl) dL_law_33 ⟨Nat.le_trans (m := 600020) (by omega) (Nat.le_of_ble_eq_true rfl), Nat.le_trans (m := 7000200) (by omega) (Nat.le_of_ble_eq_true rfl)⟩ (P_left hP) (D_left hD) hS (Jn.left hP hD) (fun r10002 σ10003 H locs hP hD hS hp => ?_)
        have hP : va_P D vwCl (W5 k ad (σ10003) ++ KP k wb wt) H := hP
        have hD : va_D A (W5 k ad (σ10003) ++ KP k wb wt) := hD
        refine lv_lstore (lv' := [(6, .long r10002), (0, .ref b), (1, .ref (ad 0)), (2, .ref (wb 0)), (3, .int x3), (4, .int x4), (5, .int x5)]) hx hb dL_law_36 hl (by decide) rfl (fun ls hl => ?_)
        refine lv_aload_n hx hb dL_law_38 rfl (lv_at hl 2 rfl) ?_
        refine lv_aload_n hx hb dL_law_39 rfl (lv_at hl 1 rfl) ?_
        refine lv_bipush (v := 14) hx hb dL_law_40 (by decide) ?_
        refine lv_iload hx hb dL_law_42 (lv_at hl 6 rfl) ?_
        refine lv_iadd hx hb dL_law_44 ?_
        obtain ⟨h10004, hp⟩ := hp
        refine fw_ciSP (As := [.ref b, .int ((14 : Int32) + x5)]) (rest := [.ref (ad 0)]) hC (c_L_cell l D k hL (v := ((14 : Int32) + x5)) h10004) (va_cwS 2 hts (gB_L B_30 B_31 B_8 B_2) rfl rfl rfl (by decide +kernel) ⟨Nat.le_of_ble_eq_true rfl, Nat.le_of_ble_eq_true rfl⟩) rfl hl.1 rfl (Nat.le_of_ble_eq_true rfl) dL_law_45 ⟨Nat.le_trans (m := 600020) (by omega) (Nat.le_of_ble_eq_true rfl), Nat.le_trans (m := 7000200) (by omega) (Nat.le_of_ble_eq_true rfl)⟩ P_nil D_nil hS hX hbl hbA (Jn.pure (w0 := fun _ : Mem => []) hP hD) (fun r10005 u9 H locs hP hD hS er10005 => ?_)
        have hp := hp r10005 er10005
        have hP : va_P D vwCl (W5 k ad (σ10003) ++ KP k wb wt) H := hP
        have hD : va_D A (W5 k ad (σ10003) ++ KP k wb wt) := hD
        refine fw_ciSX (As := [.ref (ad 0), .int r10005]) (rest := []) hC (c_L_isDone l hflag D k ad hp) (vx_cwSW 2 hts (gB_L B_81 B_82 B_8 B_63) rfl rfl rfl (by decide +kernel) ⟨Nat.le_of_ble_eq_true rfl, Nat.le_of_ble_eq_true rfl⟩) rfl hl.1 rfl (Nat.le_of_ble_eq_true rfl) dL_law_48 ⟨Nat.le_trans (m := 600020) (by omega) (Nat.le_of_ble_eq_true rfl), Nat.le_trans (m := 7000200) (by omega) (Nat.le_of_ble_eq_true rfl)⟩ (P_left hP) (D_left hD) hS (Jn.left hP hD) (fun r10006 σ10007 H locs hP hD hS hp => ?_)
        have hP : va_P D vwCl (W5 k ad (σ10007) ++ KP k wb wt) H := hP
        have hD : va_D A (W5 k ad (σ10007) ++ KP k wb wt) := hD
        refine lv_if_ne (tgt := 66) hx hb dL_law_51 (by decide) (fun c10008 => ?_) (fun c10008 => ?_)
        · have hp := hp.1 c10008
          refine W.widen (k := cz9 + 1) (n := sz9 + 6) (by omega) (by omega) ?_
          exact B_66 x3 x4 x5 wb wt (σ10007) _ _ _ hP hD hS (lv_sub hl [1, 2, 3, 4, 5, 6] rfl) hp
        · have hp := hp.2 c10008
          refine lv_aload_n hx hb dL_law_54 rfl (lv_at hl 2 rfl) ?_
          refine fw_clV (As := []) (rest := []) hC (c_X5_digest l D k ad hp) (cwV 0 hts (gB_V B_78 B_79 B_80 (iB_A _ A_25) (iB_A _ A_338)) rfl rfl rfl (by decide +kernel) ⟨Nat.le_of_ble_eq_true rfl, Nat.le_of_ble_eq_true rfl⟩) (va_recv hK hP (ci := 5) (q0 := 0) rfl rfl) rfl hl.1 rfl (Nat.le_of_ble_eq_true rfl) dL_law_55 ⟨Nat.le_trans (m := 600020) (by omega) (Nat.le_of_ble_eq_true rfl), Nat.le_trans (m := 7000200) (by omega) (Nat.le_of_ble_eq_true rfl)⟩ (P_left hP) (D_left hD) hS (Jn.left hP hD) (fun r10009 σ10010 H locs hP hD hS hp => ?_)
          have hP : va_P D vwCl (W5 k ad (σ10010) ++ KP k wb wt) H := hP
          have hD : va_D A (W5 k ad (σ10010) ++ KP k wb wt) := hD
          refine lv_lload hx hb dL_law_58 (lv_at hl 0 rfl) ?_
          refine vx_lcmp hx hb dL_law_60 (fun c10011 => ?_) (fun c10011 z9 hz9 => ?_)
          · refine lv_if_eq (tgt := 66) hx hb dL_law_61 (by decide) (fun _ => ?_) (fun c9 => absurd rfl c9)
            have hp := hp.1 c10011
            refine W.widen (k := cz9 + 1) (n := sz9 + 6) (by omega) (by omega) ?_
            exact B_66 x3 x4 x5 wb wt (σ10010) _ _ _ hP hD hS (lv_sub hl [1, 2, 3, 4, 5, 6] rfl) hp
          · refine lv_if_eq (tgt := 66) hx hb dL_law_61 (by decide) (fun c9 => absurd c9 hz9) (fun _ => ?_)
            have hp := hp.2 c10011
            have hP := P_left hP
            have hD := D_left hD
            refine W.widen (k := 600001) (n := 7000006) (by omega) (by omega) ?_
            exact B_64  (σ10010) _ _ _ hP hD hS (lv_sub hl [] rfl) hp
  refine lv_iconst (v := 0) hx hb dL_law_13 (by decide) ?_
  refine lv_istore_n (lv' := [(3, .int 0), (2, .ref (kd 0)), (1, .ref (ad 0)), (0, .ref b)]) hx hb dL_law_14 rfl hl (by decide) rfl (fun ls hl => ?_)
  refine lv_aload_n hx hb dL_law_15 rfl (lv_at hl 2 rfl) ?_
  refine lv_iconst (v := 1) hx hb dL_law_16 (by decide) ?_
  refine fw_ciV (As := [.int 1]) (rest := []) hC (c0_X5_house l D k ad hp) (cwV 1 hts (gB_V B_5 (iB_A _ A_318) (iB_A _ A_319) (iB_A _ A_25) (iB_A _ A_298)) rfl rfl rfl (by decide +kernel) ⟨Nat.le_of_ble_eq_true rfl, Nat.le_of_ble_eq_true rfl⟩) (va_recv hK hP (ci := 5) (q0 := 0) rfl rfl) rfl hl.1 rfl (Nat.le_of_ble_eq_true rfl) dL_law_17 ⟨Nat.le_of_ble_eq_true rfl, Nat.le_of_ble_eq_true rfl⟩ (P_left hP) (D_left hD) hS (Jn.left hP hD) (fun r1 σ2 H locs hP hD hS hp => ?_)
  have hP : va_P D vwCl (W5 k ad (σ2) ++ KP k kd (fun _ _ => 0)) H := hP
  have hD : va_D A (W5 k ad (σ2) ++ KP k kd (fun _ _ => 0)) := hD
  refine lv_istore (lv' := [(4, .int r1), (3, .int 0), (2, .ref (kd 0)), (1, .ref (ad 0)), (0, .ref b)]) hx hb dL_law_20 hl (by decide) rfl (fun ls hl => ?_)
  refine lv_iconst (v := 0) hx hb dL_law_22 (by decide) ?_
  refine lv_istore (lv' := [(5, .int 0), (4, .int r1), (3, .int 0), (2, .ref (kd 0)), (1, .ref (ad 0)), (0, .ref b)]) hx hb dL_law_23 hl (by decide) rfl (fun ls hl => ?_)
  obtain ⟨n9, hn9, hp⟩ := hp
  exact B_25 n9 300 3000 ⟨by omega, by omega⟩ 0 r1 0 kd (fun _ _ => 0) (σ2) _ _ _ hP hD hS (lv_sub hl [5, 4, 3, 2, 1, 0] rfl) hp
