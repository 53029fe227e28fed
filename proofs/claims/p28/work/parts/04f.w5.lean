def q_X1_drifts_43  (post : Int32 → Mem → Prop)  (s0 : Int32) (σ : Mem) : Prop := (bz s0 ∧ post s0 (σ))
def q_X1_drifts_42  (post : Int32 → Mem → Prop)  (σ : Mem) : Prop := (q_X1_drifts_43 post) 0 (σ)
def q_X1_drifts  (post : Int32 → Mem → Prop) (p1 : Int32) (p2 : Int32) (σ : Mem) : Prop := (vp_in p1 6 ∧ (∀ v2 : Int32, v2 = ((σ) 26 p1.toNatClampNeg) → ((v2 < 0 → (q_X1_drifts_42 post) (σ)) ∧ (¬ (v2 < 0) → ((((σ) 23 3) ≤ v2 → (q_X1_drifts_42 post) (σ)) ∧ (¬ (((σ) 23 3) ≤ v2) → (vp_in p1 6 ∧ (vp_in p2 5 ∧ (vp_in v2 12 ∧ (vp_in p2 5 ∧ ((((σ) (39 + p1.toNatClampNeg) p2.toNatClampNeg) = ((σ) (27 + v2.toNatClampNeg) p2.toNatClampNeg) → (q_X1_drifts_42 post) (σ)) ∧ (¬ (((σ) (39 + p1.toNatClampNeg) p2.toNatClampNeg) = ((σ) (27 + v2.toNatClampNeg) p2.toNatClampNeg)) → (q_X1_drifts_43 post) 1 (σ)))))))))))))
abbrev rm_X1_drifts : Room := { frames := 0, cells := 0, slots := 0, locals := 0 }
abbrev wq_X1_drifts : List Cond := Cond.code yX1_drifts cX1_drifts 4 (some .boolean) :: wALL
set_option maxHeartbeats 4000000 in
set_option maxRecDepth 100000 in
theorem c_X1_drifts (l : Launch) (D : va_G) (k ad : Nat → Nat) {sz : Nat} {σ : Mem} {p1 : Int32} {p2 : Int32} {post : Int32 → Mem → Prop} (hp : q_X1_drifts post p1 p2 σ) : Met l yX1_drifts wq_X1_drifts rm_X1_drifts (va_Pc [.ref (ad 23), .int p1, .int p2] (Pw D k (W5 k ad (σ)) sz)) (va_Qi post (fun u => Bw D (W5 k ad (σ)) sz (W5 k ad u)) (va_A (W5 k ad (σ)) sz)) 0 0 (va_A (W5 k ad (σ)) sz) := by
  refine fw_i (wf := fun u : Mem => W5 k ad u) (by decide) rfl (Nat.le_of_ble_eq_true rfl) ?_
  intro p e s m args below meth c A Q ls hC hP hD hl hret
  obtain ⟨⟨hx, hb, hml, hown, hts⟩, hG, hA⟩ := id hC
  have hK := hG.1
  have hS : va_S A s.heap s.heap [] := va_S.rf
  have hin_X1 : ∀ w ∈ u_ws RX1 TX1 4, w ∈ wq_X1_drifts := fun w h => List.mem_cons_of_mem _ (iU_X1 w h)
  have hf_19 := hts _ (List.mem_cons_of_mem _ A_58)
  have hf_29 := hts _ (List.mem_cons_of_mem _ A_61)
  have hf_16 := hts _ (List.mem_cons_of_mem _ A_57)
  have hf_11 := hts _ (List.mem_cons_of_mem _ A_56)
  have hl : lv_has ls 4 [(0, .ref (ad 23)), (1, .int p1), (2, .int p2)] := hl
  have hown : s.vm.findClass RX1 = some m.cls := hown
  unfold q_X1_drifts at hp
  have B_43 : ∀ (s0 : Int32) (σ : Mem) (H : Heap) (locs : List Loc) (ls : Array Slot), va_P D vwCl (W5 k ad (σ)) H → va_D A (W5 k ad (σ)) → va_S A s.heap H locs → lv_has ls 4 [] → (q_X1_drifts_43 post) s0 σ → W p l e rm_X1_drifts s m args below meth c H locs 0 0 Q (F0 m 43 ls [.int s0]) := by
    intro s0 σ H locs ls hP hD hS hl hp
    unfold q_X1_drifts_43 at hp
    exact hret s0 (σ) _ _ _ _ _ _ dX1_drifts_43 hp.1.1 hP hD hS (Nat.le_of_ble_eq_true rfl) (Nat.le_of_ble_eq_true rfl) hp.2
  have B_42 : ∀  (σ : Mem) (H : Heap) (locs : List Loc) (ls : Array Slot), va_P D vwCl (W5 k ad (σ)) H → va_D A (W5 k ad (σ)) → va_S A s.heap H locs → lv_has ls 4 [] → (q_X1_drifts_42 post)  σ → W p l e rm_X1_drifts s m args below meth c H locs 0 0 Q (F0 m 42 ls []) := by
    intro  σ H locs ls hP hD hS hl hp
    unfold q_X1_drifts_42 at hp
    refine lv_iconst (v := 0) hx hb dX1_drifts_42 (by decide) ?_
    exact B_43 0 (σ) _ _ _  hP hD hS (lv_sub hl [] rfl) hp
  refine lv_aload_n hx hb dX1_drifts_0 rfl (lv_at hl 0 rfl) ?_
  refine va_get (D := D) (ci := 5) (C := RX1) (T := TX1) (N := 4) hx hb hts hin_X1 hown hK hP 23 rfl rfl 2 (by decide) hf_19 (fun _ h9 => h9) rfl dX1_drifts_1 ?_
  refine lv_iload_n hx hb dX1_drifts_4 rfl (lv_at hl 1 rfl) ?_
  obtain ⟨h1, hp⟩ := hp
  refine va_iald hx hb hK hP 26 0 rfl rfl h1 dX1_drifts_5 ?_
  refine lv_topi (fun v2 ev2 => ?_)
  have hp := hp v2 ev2
  refine lv_istore_n (lv' := [(3, .int v2), (0, .ref (ad 23)), (1, .int p1), (2, .int p2)]) hx hb dX1_drifts_6 rfl hl (by decide) rfl (fun ls hl => ?_)
  refine lv_iload_n hx hb dX1_drifts_7 rfl (lv_at hl 0 rfl) ?_
  refine lv_if_lt (tgt := 42) hx hb dX1_drifts_8 (by decide) (fun c3 => ?_) (fun c3 => ?_)
  · have hp := hp.1 c3
    exact B_42  (σ) _ _ _  hP hD hS (lv_sub hl [] rfl) hp
  · have hp := hp.2 c3
    refine lv_iload_n hx hb dX1_drifts_11 rfl (lv_at hl 0 rfl) ?_
    refine lv_aload_n hx hb dX1_drifts_12 rfl (lv_at hl 1 rfl) ?_
    refine va_get (D := D) (ci := 5) (C := RX1) (T := TX1) (N := 4) hx hb hts hin_X1 hown hK hP 23 rfl rfl 3 (by decide) hf_29 (fun _ h9 => h9) rfl dX1_drifts_13 ?_
    refine lv_icmp_ge (tgt := 42) hx hb dX1_drifts_16 (by decide) (fun c4 => ?_) (fun c4 => ?_)
    · have hp := hp.1 c4
      exact B_42  (σ) _ _ _  hP hD hS (lv_sub hl [] rfl) hp
    · have hp := hp.2 c4
      refine lv_aload_n hx hb dX1_drifts_19 rfl (lv_at hl 1 rfl) ?_
      refine va_get (D := D) (ci := 5) (C := RX1) (T := TX1) (N := 4) hx hb hts hin_X1 hown hK hP 23 rfl rfl 1 (by decide) hf_16 (fun _ h9 => h9) rfl dX1_drifts_20 ?_
      refine lv_iload_n hx hb dX1_drifts_23 rfl (lv_at hl 2 rfl) ?_
      obtain ⟨h5, hp⟩ := hp
      refine va_ald2 hx hb hK hP 25 2 rfl rfl h5 (if_some (vin_lt h5) _) dX1_drifts_24 ?_
      refine lv_iload_n hx hb dX1_drifts_25 rfl (lv_at hl 3 rfl) ?_
      obtain ⟨h6, hp⟩ := hp
      refine va_iald hx hb hK hP (39 + p1.toNatClampNeg) 0 (W5_had k ad (σ) (vin_lt h5)) rfl h6 dX1_drifts_26 ?_
      refine lv_aload_n hx hb dX1_drifts_27 rfl (lv_at hl 1 rfl) ?_
      refine va_get (D := D) (ci := 5) (C := RX1) (T := TX1) (N := 4) hx hb hts hin_X1 hown hK hP 23 rfl rfl 0 (by decide) hf_11 (fun _ h9 => h9) rfl dX1_drifts_28 ?_
      refine lv_iload_n hx hb dX1_drifts_31 rfl (lv_at hl 0 rfl) ?_
      obtain ⟨h7, hp⟩ := hp
      refine va_ald2 hx hb hK hP 24 2 rfl rfl h7 (if_some (vin_lt h7) _) dX1_drifts_32 ?_
      refine lv_iload_n hx hb dX1_drifts_33 rfl (lv_at hl 3 rfl) ?_
      obtain ⟨h8, hp⟩ := hp
      refine va_iald hx hb hK hP (27 + v2.toNatClampNeg) 0 (W5_kept k ad (σ) (vin_lt h7)) rfl h8 dX1_drifts_34 ?_
      refine lv_icmp_eq (tgt := 42) hx hb dX1_drifts_35 (by decide) (fun c9 => ?_) (fun c9 => ?_)
      · have hp := hp.1 c9
        exact B_42  (σ) _ _ _  hP hD hS (lv_sub hl [] rfl) hp
      · have hp := hp.2 c9
        refine lv_iconst (v := 1) hx hb dX1_drifts_38 (by decide) ?_
        refine lv_goto (tgt := 43) hx hb dX1_drifts_39 (by decide) ?_
        exact B_43 1 (σ) _ _ _  hP hD hS (lv_sub hl [] rfl) hp
def q_X1_drifting_30  (post : Int32 → Mem → Prop)  (x2 : Int32) (σ : Mem) : Prop := post x2 (σ)
def q_X1_drifting_24  (post : Int32 → Mem → Prop) (kE_30 : Int32 → Mem → Prop) (kc_4 : Int32 → Int32 → Int32 → Mem → Prop) (x1 : Int32) (x2 : Int32) (x3 : Int32) (σ : Mem) : Prop := (∀ v2001 : Int32, v2001 = x3 + 1 → kc_4 x1 x2 v2001 (σ))
def q_X1_drifting_4  (post : Int32 → Mem → Prop) (kE_30 : Int32 → Mem → Prop) (kc_4 : Int32 → Int32 → Int32 → Mem → Prop) (x1 : Int32) (x2 : Int32) (x3 : Int32) (σ : Mem) : Prop := ((5 ≤ x3 → kE_30 x2 (σ)) ∧ (¬ (5 ≤ x3) → (q_X1_drifts (fun (r1002 : Int32) (σ1003 : Mem) => ((r1002 = 0 → (q_X1_drifting_24 post kE_30 kc_4) x1 x2 x3 (σ1003)) ∧ (¬ (r1002 = 0) → (∀ v1005 : Int32, v1005 = (x2 ||| ((1 : Int32) <<< (x3 &&& 31))) → (q_X1_drifting_24 post kE_30 kc_4) x1 v1005 x3 (σ1003))))) x1 x3 (σ))))
def q_X1_drifting  (post : Int32 → Mem → Prop) (p1 : Int32) (σ : Mem) : Prop := (∃ n9 : Nat, lp_4 (q_X1_drifting_4 post (q_X1_drifting_30 post)) n9 p1 0 0 (σ))
abbrev rm_X1_drifting : Room := { frames := 1, cells := 0, slots := 0, locals := 23 }
abbrev wq_X1_drifting : List Cond := Cond.code yX1_drifting cX1_drifting 4 (some .int) :: wALL
set_option maxHeartbeats 4000000 in
set_option maxRecDepth 100000 in
theorem c_X1_drifting (l : Launch) (D : va_G) (k ad : Nat → Nat) {sz : Nat} {σ : Mem} {p1 : Int32} {post : Int32 → Mem → Prop} (hp : q_X1_drifting post p1 σ) : Met l yX1_drifting wq_X1_drifting rm_X1_drifting (va_Pc [.ref (ad 23), .int p1] (Pw D k (W5 k ad (σ)) sz)) (va_Qi post (fun u => Bw D (W5 k ad (σ)) sz (W5 k ad u)) (va_A (W5 k ad (σ)) sz)) 0 0 (va_A (W5 k ad (σ)) sz) := by
  refine fw_i (wf := fun u : Mem => W5 k ad u) (by decide) rfl (Nat.le_of_ble_eq_true rfl) ?_
  intro p e s m args below meth c A Q ls hC hP hD hl hret
  obtain ⟨⟨hx, hb, hml, hown, hts⟩, hG, hA⟩ := id hC
  have hK := hG.1
  have hS : va_S A s.heap s.heap [] := va_S.rf
  have hl : lv_has ls 4 [(0, .ref (ad 23)), (1, .int p1)] := hl
  have hown : s.vm.findClass RX1 = some m.cls := hown
  unfold q_X1_drifting at hp
  have B_30 : ∀ (x2 : Int32) (σ : Mem) (H : Heap) (locs : List Loc) (ls : Array Slot), va_P D vwCl (W5 k ad (σ)) H → va_D A (W5 k ad (σ)) → va_S A s.heap H locs → lv_has ls 4 [(2, .int x2)] → (q_X1_drifting_30 post) x2 σ → W p l e rm_X1_drifting s m args below meth c H locs 0 0 Q (F0 m 30 ls []) := by
    intro x2 σ H locs ls hP hD hS hl hp
    unfold q_X1_drifting_30 at hp
    refine lv_iload_n hx hb dX1_drifting_30 rfl (lv_at hl 0 rfl) ?_
    exact hret x2 (σ) _ _ _ _ _ _ dX1_drifting_31 rfl hP hD hS (Nat.le_of_ble_eq_true rfl) (Nat.le_of_ble_eq_true rfl) hp
  have B_4 : ∀ (n_4 : Nat) (x1 : Int32) (x2 : Int32) (x3 : Int32) (σ : Mem) (H : Heap) (locs : List Loc) (ls : Array Slot), va_P D vwCl (W5 k ad (σ)) H → va_D A (W5 k ad (σ)) → va_S A s.heap H locs → lv_has ls 4 [(0, .ref (ad 23)), (1, .int x1), (2, .int x2), (3, .int x3)] → lp_4 (q_X1_drifting_4 post (q_X1_drifting_30 post)) n_4 x1 x2 x3 σ → W p l e rm_X1_drifting s m args below meth c H locs 0 0 Q (F0 m 4 ls []) := by
    intro n_4
    induction n_4 with
    | zero => intro x1 x2 x3 σ H locs ls hP hD hS hl hp; exact hp.elim
    | succ n_4 ih_4 =>
      have B_24 : ∀ (x1 : Int32) (x2 : Int32) (x3 : Int32) (σ : Mem) (H : Heap) (locs : List Loc) (ls : Array Slot), va_P D vwCl (W5 k ad (σ)) H → va_D A (W5 k ad (σ)) → va_S A s.heap H locs → lv_has ls 4 [(0, .ref (ad 23)), (1, .int x1), (2, .int x2), (3, .int x3)] → (q_X1_drifting_24 post (q_X1_drifting_30 post) (lp_4 (q_X1_drifting_4 post (q_X1_drifting_30 post)) n_4)) x1 x2 x3 σ → W p l e rm_X1_drifting s m args below meth c H locs 0 0 Q (F0 m 24 ls []) := by
        intro x1 x2 x3 σ H locs ls hP hD hS hl hp
        unfold q_X1_drifting_24 at hp
        obtain ⟨v20001, ev20001⟩ : ∃ z : Int32, z = x3 + 1 := ⟨_, rfl⟩
        have hp := hp v20001 ev20001
        refine lv_iinc (v := v20001) (lv' := [(3, .int v20001), (0, .ref (ad 23)), (1, .int x1), (2, .int x2)]) hx hb dX1_drifting_24 hl (k := 3) rfl (by rw [ev20001]; rfl) (by decide) rfl (fun ls hl => ?_)
        refine lv_goto (tgt := 4) hx hb dX1_drifting_27 (by decide) ?_
        exact ih_4 x1 x2 v20001 (σ) _ _ _  hP hD hS (lv_sub hl [1, 2, 3, 0] rfl) hp
      intro x1 x2 x3 σ H locs ls hP hD hS hl hp
      have hp : q_X1_drifting_4 post (q_X1_drifting_30 post) (lp_4 (q_X1_drifting_4 post (q_X1_drifting_30 post)) n_4) x1 x2 x3 σ := hp
      unfold q_X1_drifting_4 at hp
      refine lv_iload_n hx hb dX1_drifting_4 rfl (lv_at hl 3 rfl) ?_
      refine lv_iconst (v := 5) hx hb dX1_drifting_5 (by decide) ?_
      refine lv_icmp_ge (tgt := 30) hx hb dX1_drifting_6 (by decide) (fun c10001 => ?_) (fun c10001 => ?_)
      · have hp := hp.1 c10001
        exact B_30 x2 (σ) _ _ _  hP hD hS (lv_sub hl [2] rfl) hp
      · have hp := hp.2 c10001
        refine lv_aload_n hx hb dX1_drifting_9 rfl (lv_at hl 0 rfl) ?_
        refine lv_iload_n hx hb dX1_drifting_10 rfl (lv_at hl 1 rfl) ?_
        refine lv_iload_n hx hb dX1_drifting_11 rfl (lv_at hl 3 rfl) ?_
        refine fw_ciV (As := [.int x1, .int x3]) (rest := []) hC (c_X1_drifts l D k ad hp) (cwV 2 hts (gA_V A_65 A_66 A_67 A_68 A_63) rfl rfl rfl (by decide +kernel) ⟨Nat.le_of_ble_eq_true rfl, Nat.le_of_ble_eq_true rfl⟩) (va_recv hK hP (ci := 5) (q0 := 23) rfl rfl) rfl hl.1 rfl (Nat.le_of_ble_eq_true rfl) dX1_drifting_12 ⟨Nat.le_of_ble_eq_true rfl, Nat.le_of_ble_eq_true rfl⟩ hP hD hS Jn.same (fun r10002 σ10003 H locs hP hD hS hp => ?_)
        have hP : va_P D vwCl (W5 k ad (σ10003)) H := hP
        have hD : va_D A (W5 k ad (σ10003)) := hD
        refine lv_if_eq (tgt := 24) hx hb dX1_drifting_15 (by decide) (fun c10004 => ?_) (fun c10004 => ?_)
        · have hp := hp.1 c10004
          exact B_24 x1 x2 x3 (σ10003) _ _ _  hP hD hS (lv_sub hl [0, 1, 2, 3] rfl) hp
        · have hp := hp.2 c10004
          refine lv_iload_n hx hb dX1_drifting_18 rfl (lv_at hl 2 rfl) ?_
          refine lv_iconst (v := 1) hx hb dX1_drifting_19 (by decide) ?_
          refine lv_iload_n hx hb dX1_drifting_20 rfl (lv_at hl 3 rfl) ?_
          refine lv_ishl hx hb dX1_drifting_21 ?_
          refine lv_ior hx hb dX1_drifting_22 ?_
          refine lv_topi (fun v10005 ev10005 => ?_)
          have hp := hp v10005 ev10005
          refine lv_istore_n (lv' := [(2, .int v10005), (0, .ref (ad 23)), (1, .int x1), (3, .int x3)]) hx hb dX1_drifting_23 rfl hl (by decide) rfl (fun ls hl => ?_)
          exact B_24 x1 v10005 x3 (σ10003) _ _ _  hP hD hS (lv_sub hl [1, 2, 0, 3] rfl) hp
  refine lv_iconst (v := 0) hx hb dX1_drifting_0 (by decide) ?_
  refine lv_istore_n (lv' := [(2, .int 0), (0, .ref (ad 23)), (1, .int p1)]) hx hb dX1_drifting_1 rfl hl (by decide) rfl (fun ls hl => ?_)
  refine lv_iconst (v := 0) hx hb dX1_drifting_2 (by decide) ?_
  refine lv_istore_n (lv' := [(3, .int 0), (2, .int 0), (0, .ref (ad 23)), (1, .int p1)]) hx hb dX1_drifting_3 rfl hl (by decide) rfl (fun ls hl => ?_)
  obtain ⟨n9, hp⟩ := hp
  exact B_4 n9 p1 0 0 (σ) _ _ _  hP hD hS (lv_sub hl [2, 3, 1, 0] rfl) hp
def q_X1_driftingMachines_27  (post : Int32 → Mem → Prop)  (x1 : Int32) (σ : Mem) : Prop := post x1 (σ)
def q_X1_driftingMachines_21  (post : Int32 → Mem → Prop) (kE_27 : Int32 → Mem → Prop) (kc_4 : Int32 → Int32 → Mem → Prop) (x1 : Int32) (x2 : Int32) (σ : Mem) : Prop := (∀ v2001 : Int32, v2001 = x2 + 1 → kc_4 x1 v2001 (σ))
def q_X1_driftingMachines_4  (post : Int32 → Mem → Prop) (kE_27 : Int32 → Mem → Prop) (kc_4 : Int32 → Int32 → Mem → Prop) (x1 : Int32) (x2 : Int32) (σ : Mem) : Prop := ((6 ≤ x2 → kE_27 x1 (σ)) ∧ (¬ (6 ≤ x2) → (q_X1_drifting (fun (r1002 : Int32) (σ1003 : Mem) => ((r1002 = 0 → (q_X1_driftingMachines_21 post kE_27 kc_4) x1 x2 (σ1003)) ∧ (¬ (r1002 = 0) → (∀ v1005 : Int32, v1005 = x1 + 1 → (q_X1_driftingMachines_21 post kE_27 kc_4) v1005 x2 (σ1003))))) x2 (σ))))
def q_X1_driftingMachines  (post : Int32 → Mem → Prop) (σ : Mem) : Prop := (∃ n9 : Nat, lp_3 (q_X1_driftingMachines_4 post (q_X1_driftingMachines_27 post)) n9 0 0 (σ))
abbrev rm_X1_driftingMachines : Room := { frames := 2, cells := 0, slots := 0, locals := 46 }
abbrev wq_X1_driftingMachines : List Cond := Cond.code yX1_driftingMachines cX1_driftingMachines 3 (some .int) :: wALL
set_option maxHeartbeats 4000000 in
set_option maxRecDepth 100000 in
theorem c_X1_driftingMachines (l : Launch) (D : va_G) (k ad : Nat → Nat) {sz : Nat} {σ : Mem} {post : Int32 → Mem → Prop} (hp : q_X1_driftingMachines post σ) : Met l yX1_driftingMachines wq_X1_driftingMachines rm_X1_driftingMachines (va_Pc [.ref (ad 23)] (Pw D k (W5 k ad (σ)) sz)) (va_Qi post (fun u => Bw D (W5 k ad (σ)) sz (W5 k ad u)) (va_A (W5 k ad (σ)) sz)) 0 0 (va_A (W5 k ad (σ)) sz) := by
  refine fw_i (wf := fun u : Mem => W5 k ad u) (by decide) rfl (Nat.le_of_ble_eq_true rfl) ?_
  intro p e s m args below meth c A Q ls hC hP hD hl hret
  obtain ⟨⟨hx, hb, hml, hown, hts⟩, hG, hA⟩ := id hC
  have hK := hG.1
  have hS : va_S A s.heap s.heap [] := va_S.rf
  have hl : lv_has ls 3 [(0, .ref (ad 23))] := hl
  have hown : s.vm.findClass RX1 = some m.cls := hown
  unfold q_X1_driftingMachines at hp
  have B_27 : ∀ (x1 : Int32) (σ : Mem) (H : Heap) (locs : List Loc) (ls : Array Slot), va_P D vwCl (W5 k ad (σ)) H → va_D A (W5 k ad (σ)) → va_S A s.heap H locs → lv_has ls 3 [(1, .int x1)] → (q_X1_driftingMachines_27 post) x1 σ → W p l e rm_X1_driftingMachines s m args below meth c H locs 0 0 Q (F0 m 27 ls []) := by
    intro x1 σ H locs ls hP hD hS hl hp
    unfold q_X1_driftingMachines_27 at hp
    refine lv_iload_n hx hb dX1_driftingMachines_27 rfl (lv_at hl 0 rfl) ?_
    exact hret x1 (σ) _ _ _ _ _ _ dX1_driftingMachines_28 rfl hP hD hS (Nat.le_of_ble_eq_true rfl) (Nat.le_of_ble_eq_true rfl) hp
  have B_4 : ∀ (n_4 : Nat) (x1 : Int32) (x2 : Int32) (σ : Mem) (H : Heap) (locs : List Loc) (ls : Array Slot), va_P D vwCl (W5 k ad (σ)) H → va_D A (W5 k ad (σ)) → va_S A s.heap H locs → lv_has ls 3 [(0, .ref (ad 23)), (1, .int x1), (2, .int x2)] → lp_3 (q_X1_driftingMachines_4 post (q_X1_driftingMachines_27 post)) n_4 x1 x2 σ → W p l e rm_X1_driftingMachines s m args below meth c H locs 0 0 Q (F0 m 4 ls []) := by
    intro n_4
    induction n_4 with
    | zero => intro x1 x2 σ H locs ls hP hD hS hl hp; exact hp.elim
    | succ n_4 ih_4 =>
      have B_21 : ∀ (x1 : Int32) (x2 : Int32) (σ : Mem) (H : Heap) (locs : List Loc) (ls : Array Slot), va_P D vwCl (W5 k ad (σ)) H → va_D A (W5 k ad (σ)) → va_S A s.heap H locs → lv_has ls 3 [(0, .ref (ad 23)), (1, .int x1), (2, .int x2)] → (q_X1_driftingMachines_21 post (q_X1_driftingMachines_27 post) (lp_3 (q_X1_driftingMachines_4 post (q_X1_driftingMachines_27 post)) n_4)) x1 x2 σ → W p l e rm_X1_driftingMachines s m args below meth c H locs 0 0 Q (F0 m 21 ls []) := by
        intro x1 x2 σ H locs ls hP hD hS hl hp
        unfold q_X1_driftingMachines_21 at hp
        obtain ⟨v20001, ev20001⟩ : ∃ z : Int32, z = x2 + 1 := ⟨_, rfl⟩
        have hp := hp v20001 ev20001
        refine lv_iinc (v := v20001) (lv' := [(2, .int v20001), (0, .ref (ad 23)), (1, .int x1)]) hx hb dX1_driftingMachines_21 hl (k := 2) rfl (by rw [ev20001]; rfl) (by decide) rfl (fun ls hl => ?_)
        refine lv_goto (tgt := 4) hx hb dX1_driftingMachines_24 (by decide) ?_
        exact ih_4 x1 v20001 (σ) _ _ _  hP hD hS (lv_sub hl [1, 2, 0] rfl) hp
      intro x1 x2 σ H locs ls hP hD hS hl hp
      have hp : q_X1_driftingMachines_4 post (q_X1_driftingMachines_27 post) (lp_3 (q_X1_driftingMachines_4 post (q_X1_driftingMachines_27 post)) n_4) x1 x2 σ := hp
      unfold q_X1_driftingMachines_4 at hp
      refine lv_iload_n hx hb dX1_driftingMachines_4 rfl (lv_at hl 2 rfl) ?_
      refine lv_bipush (v := 6) hx hb dX1_driftingMachines_5 (by decide) ?_
      refine lv_icmp_ge (tgt := 27) hx hb dX1_driftingMachines_7 (by decide) (fun c10001 => ?_) (fun c10001 => ?_)
      · have hp := hp.1 c10001
        exact B_27 x1 (σ) _ _ _  hP hD hS (lv_sub hl [1] rfl) hp
      · have hp := hp.2 c10001
        refine lv_aload_n hx hb dX1_driftingMachines_10 rfl (lv_at hl 0 rfl) ?_
        refine lv_iload_n hx hb dX1_driftingMachines_11 rfl (lv_at hl 2 rfl) ?_
        refine fw_ciV (As := [.int x2]) (rest := []) hC (c_X1_drifting l D k ad hp) (cwV 1 hts (gA_V A_70 A_71 A_72 A_68 A_64) rfl rfl rfl (by decide +kernel) ⟨Nat.le_of_ble_eq_true rfl, Nat.le_of_ble_eq_true rfl⟩) (va_recv hK hP (ci := 5) (q0 := 23) rfl rfl) rfl hl.1 rfl (Nat.le_of_ble_eq_true rfl) dX1_driftingMachines_12 ⟨Nat.le_of_ble_eq_true rfl, Nat.le_of_ble_eq_true rfl⟩ hP hD hS Jn.same (fun r10002 σ10003 H locs hP hD hS hp => ?_)
        have hP : va_P D vwCl (W5 k ad (σ10003)) H := hP
        have hD : va_D A (W5 k ad (σ10003)) := hD
        refine lv_if_eq (tgt := 21) hx hb dX1_driftingMachines_15 (by decide) (fun c10004 => ?_) (fun c10004 => ?_)
        · have hp := hp.1 c10004
          exact B_21 x1 x2 (σ10003) _ _ _  hP hD hS (lv_sub hl [0, 1, 2] rfl) hp
        · have hp := hp.2 c10004
          obtain ⟨v10005, ev10005⟩ : ∃ z : Int32, z = x1 + 1 := ⟨_, rfl⟩
          have hp := hp v10005 ev10005
          refine lv_iinc (v := v10005) (lv' := [(1, .int v10005), (0, .ref (ad 23)), (2, .int x2)]) hx hb dX1_driftingMachines_18 hl (k := 1) rfl (by rw [ev10005]; rfl) (by decide) rfl (fun ls hl => ?_)
          exact B_21 v10005 x2 (σ10003) _ _ _  hP hD hS (lv_sub hl [1, 0, 2] rfl) hp
  refine lv_iconst (v := 0) hx hb dX1_driftingMachines_0 (by decide) ?_
  refine lv_istore_n (lv' := [(1, .int 0), (0, .ref (ad 23))]) hx hb dX1_driftingMachines_1 rfl hl (by decide) rfl (fun ls hl => ?_)
  refine lv_iconst (v := 0) hx hb dX1_driftingMachines_2 (by decide) ?_
  refine lv_istore_n (lv' := [(2, .int 0), (1, .int 0), (0, .ref (ad 23))]) hx hb dX1_driftingMachines_3 rfl hl (by decide) rfl (fun ls hl => ?_)
  obtain ⟨n9, hp⟩ := hp
  exact B_4 n9 0 0 (σ) _ _ _  hP hD hS (lv_sub hl [2, 1, 0] rfl) hp
def q_X1_bring_23  (post : Int32 → Mem → Prop)  (s0 : Int32) (x1 : Int32) (x2 : Int32) (σ : Mem) : Prop := (vp_in x1 6 ∧ (∀ σ2002 : Mem, σ2002 = mst (σ) 26 x1.toNatClampNeg x2 → (vp_in x2 12 ∧ (vp_in x1 6 ∧ (∀ σ2005 : Mem, σ2005 = mup (σ2002) (39 + x1.toNatClampNeg) (va_cpy ((σ2002) (27 + x2.toNatClampNeg)) ((σ2002) (39 + x1.toNatClampNeg)) ((0 : Int32).toNatClampNeg) ((0 : Int32).toNatClampNeg) ((5 : Int32).toNatClampNeg)) → (bz s0 ∧ post s0 (σ2005)))))))
def q_X1_bring_18  (post : Int32 → Mem → Prop)  (x1 : Int32) (x2 : Int32) (σ : Mem) : Prop := (q_X1_bring_23 post) 1 x1 x2 (σ)
def q_X1_bring  (post : Int32 → Mem → Prop) (p1 : Int32) (p2 : Int32) (σ : Mem) : Prop := (vp_in p1 6 ∧ ((((σ) 26 p1.toNatClampNeg) ≠ p2 → (q_X1_bring_18 post) p1 p2 (σ)) ∧ (((σ) 26 p1.toNatClampNeg) = p2 → (q_X1_drifting (fun (r3 : Int32) (σ4 : Mem) => ((r3 = 0 → (q_X1_bring_23 post) 0 p1 p2 (σ4)) ∧ (¬ (r3 = 0) → (q_X1_bring_18 post) p1 p2 (σ4)))) p1 (σ)))))
abbrev rm_X1_bring : Room := { frames := 2, cells := 0, slots := 0, locals := 80 }
abbrev wq_X1_bring : List Cond := Cond.code yX1_bring cX1_bring 4 (some .boolean) :: wALL
set_option maxHeartbeats 4000000 in
set_option maxRecDepth 100000 in
theorem c_X1_bring (l : Launch) (D : va_G) (k ad : Nat → Nat) {sz : Nat} {σ : Mem} {p1 : Int32} {p2 : Int32} {post : Int32 → Mem → Prop} (hp : q_X1_bring post p1 p2 σ) : Met l yX1_bring wq_X1_bring rm_X1_bring (va_Pc [.ref (ad 23), .int p1, .int p2] (Pw D k (W5 k ad (σ)) sz)) (va_Qi post (fun u => Bw D (W5 k ad (σ)) sz (W5 k ad u)) (va_A (W5 k ad (σ)) sz)) 0 0 (va_A (W5 k ad (σ)) sz) := by
  refine fw_i (wf := fun u : Mem => W5 k ad u) (by decide) rfl (Nat.le_of_ble_eq_true rfl) ?_
  intro p e s m args below meth c A Q ls hC hP hD hl hret
  obtain ⟨⟨hx, hb, hml, hown, hts⟩, hG, hA⟩ := id hC
  have hK := hG.1
  have hS : va_S A s.heap s.heap [] := va_S.rf
  have hin_X1 : ∀ w ∈ u_ws RX1 TX1 4, w ∈ wq_X1_bring := fun w h => List.mem_cons_of_mem _ (iU_X1 w h)
  have hf_19 := hts _ (List.mem_cons_of_mem _ A_58)
  have hf_11 := hts _ (List.mem_cons_of_mem _ A_56)
  have hf_16 := hts _ (List.mem_cons_of_mem _ A_57)
  have hl : lv_has ls 4 [(0, .ref (ad 23)), (1, .int p1), (2, .int p2)] := hl
  have hown : s.vm.findClass RX1 = some m.cls := hown
  unfold q_X1_bring at hp
  have B_23 : ∀ (s0 : Int32) (x1 : Int32) (x2 : Int32) (σ : Mem) (H : Heap) (locs : List Loc) (ls : Array Slot), va_P D vwCl (W5 k ad (σ)) H → va_D A (W5 k ad (σ)) → va_S A s.heap H locs → lv_has ls 4 [(0, .ref (ad 23)), (1, .int x1), (2, .int x2)] → (q_X1_bring_23 post) s0 x1 x2 σ → W p l e rm_X1_bring s m args below meth c H locs 0 0 Q (F0 m 23 ls [.int s0]) := by
    intro s0 x1 x2 σ H locs ls hP hD hS hl hp
    unfold q_X1_bring_23 at hp
    refine lv_istore_n (lv' := [(3, .int s0), (0, .ref (ad 23)), (1, .int x1), (2, .int x2)]) hx hb dX1_bring_23 rfl hl (by decide) rfl (fun ls hl => ?_)
    refine lv_aload_n hx hb dX1_bring_24 rfl (lv_at hl 1 rfl) ?_
    refine va_get (D := D) (ci := 5) (C := RX1) (T := TX1) (N := 4) hx hb hts hin_X1 hown hK hP 23 rfl rfl 2 (by decide) hf_19 (fun _ h9 => h9) rfl dX1_bring_25 ?_
    refine lv_iload_n hx hb dX1_bring_28 rfl (lv_at hl 2 rfl) ?_
    refine lv_iload_n hx hb dX1_bring_29 rfl (lv_at hl 3 rfl) ?_
    obtain ⟨h20001, hp⟩ := hp
    refine va_iast hx hb hK hP hD hS 26 0 rfl rfl h20001 dX1_bring_30 (fun H locs hP hD hS => ?_)
    obtain ⟨σ20002, eσ20002⟩ : ∃ z : Mem, z = mst (σ) 26 x1.toNatClampNeg x2 := ⟨_, rfl⟩
    have hp := hp σ20002 eσ20002
    have hP : va_P D vwCl (W5 k ad (σ20002)) H := by rw [eσ20002]; exact hP
    have hD : va_D A (W5 k ad (σ20002)) := by rw [eσ20002]; exact hD
    refine lv_aload_n hx hb dX1_bring_31 rfl (lv_at hl 1 rfl) ?_
    refine va_get (D := D) (ci := 5) (C := RX1) (T := TX1) (N := 4) hx hb hts hin_X1 hown hK hP 23 rfl rfl 0 (by decide) hf_11 (fun _ h9 => h9) rfl dX1_bring_32 ?_
    refine lv_iload_n hx hb dX1_bring_35 rfl (lv_at hl 3 rfl) ?_
    obtain ⟨h20003, hp⟩ := hp
    refine va_ald2 hx hb hK hP 24 2 rfl rfl h20003 (if_some (vin_lt h20003) _) dX1_bring_36 ?_
    refine lv_iconst (v := 0) hx hb dX1_bring_37 (by decide) ?_
    refine lv_aload_n hx hb dX1_bring_38 rfl (lv_at hl 1 rfl) ?_
    refine va_get (D := D) (ci := 5) (C := RX1) (T := TX1) (N := 4) hx hb hts hin_X1 hown hK hP 23 rfl rfl 1 (by decide) hf_16 (fun _ h9 => h9) rfl dX1_bring_39 ?_
    refine lv_iload_n hx hb dX1_bring_42 rfl (lv_at hl 2 rfl) ?_
    obtain ⟨h20004, hp⟩ := hp
    refine va_ald2 hx hb hK hP 25 2 rfl rfl h20004 (if_some (vin_lt h20004) _) dX1_bring_43 ?_
    refine lv_iconst (v := 0) hx hb dX1_bring_44 (by decide) ?_
    refine lv_iconst (v := 5) hx hb dX1_bring_45 (by decide) ?_
    refine va_copyi hx hb (by rw [hml]; exact hl.1.symm) hown (hts _ (List.mem_cons_of_mem _ A_62)) (hts _ (List.mem_cons_of_mem _ A_35)) (hts _ (List.mem_cons_of_mem _ A_36)) (hts _ (List.mem_cons_of_mem _ A_37)) hK hP hD hS (27 + x2.toNatClampNeg) (39 + x1.toNatClampNeg) 0 0 (W5_kept k ad (σ20002) (vin_lt h20003)) (W5_had k ad (σ20002) (vin_lt h20004)) rfl rfl rfl (by decide) (by decide) (by decide) (by decide) (by decide) (fun _ _ => rfl) (Nat.le_of_ble_eq_true rfl) (by decide +kernel) dX1_bring_46 (fun H locs hP hD hS => ?_)
    rw [W5_hadS k ad (σ20002) (vin_lt h20004)] at hP hD
    obtain ⟨σ20005, eσ20005⟩ : ∃ z : Mem, z = mup (σ20002) (39 + x1.toNatClampNeg) (va_cpy ((σ20002) (27 + x2.toNatClampNeg)) ((σ20002) (39 + x1.toNatClampNeg)) ((0 : Int32).toNatClampNeg) ((0 : Int32).toNatClampNeg) ((5 : Int32).toNatClampNeg)) := ⟨_, rfl⟩
    have hp := hp σ20005 eσ20005
    have hP : va_P D vwCl (W5 k ad (σ20005)) H := by rw [eσ20005]; exact hP
    have hD : va_D A (W5 k ad (σ20005)) := by rw [eσ20005]; exact hD
    refine lv_iload_n hx hb dX1_bring_49 rfl (lv_at hl 0 rfl) ?_
    exact hret s0 (σ20005) _ _ _ _ _ _ dX1_bring_50 hp.1.1 hP hD hS (Nat.le_of_ble_eq_true rfl) (Nat.le_of_ble_eq_true rfl) hp.2
  have B_18 : ∀ (x1 : Int32) (x2 : Int32) (σ : Mem) (H : Heap) (locs : List Loc) (ls : Array Slot), va_P D vwCl (W5 k ad (σ)) H → va_D A (W5 k ad (σ)) → va_S A s.heap H locs → lv_has ls 4 [(0, .ref (ad 23)), (1, .int x1), (2, .int x2)] → (q_X1_bring_18 post) x1 x2 σ → W p l e rm_X1_bring s m args below meth c H locs 0 0 Q (F0 m 18 ls []) := by
    intro x1 x2 σ H locs ls hP hD hS hl hp
    unfold q_X1_bring_18 at hp
    refine lv_iconst (v := 1) hx hb dX1_bring_18 (by decide) ?_
    refine lv_goto (tgt := 23) hx hb dX1_bring_19 (by decide) ?_
    exact B_23 1 x1 x2 (σ) _ _ _  hP hD hS (lv_sub hl [0, 1, 2] rfl) hp
  refine lv_aload_n hx hb dX1_bring_0 rfl (lv_at hl 0 rfl) ?_
  refine va_get (D := D) (ci := 5) (C := RX1) (T := TX1) (N := 4) hx hb hts hin_X1 hown hK hP 23 rfl rfl 2 (by decide) hf_19 (fun _ h9 => h9) rfl dX1_bring_1 ?_
  refine lv_iload_n hx hb dX1_bring_4 rfl (lv_at hl 1 rfl) ?_
  obtain ⟨h1, hp⟩ := hp
  refine va_iald hx hb hK hP 26 0 rfl rfl h1 dX1_bring_5 ?_
  refine lv_iload_n hx hb dX1_bring_6 rfl (lv_at hl 2 rfl) ?_
  refine lv_icmp_ne (tgt := 18) hx hb dX1_bring_7 (by decide) (fun c2 => ?_) (fun c2 => ?_)
  · have hp := hp.1 c2
    exact B_18 p1 p2 (σ) _ _ _  hP hD hS (lv_sub hl [0, 1, 2] rfl) hp
  · have hp := hp.2 c2
    refine lv_aload_n hx hb dX1_bring_10 rfl (lv_at hl 0 rfl) ?_
    refine lv_iload_n hx hb dX1_bring_11 rfl (lv_at hl 1 rfl) ?_
    refine fw_ciV (As := [.int p1]) (rest := []) hC (c_X1_drifting l D k ad hp) (cwV 1 hts (gA_V A_70 A_71 A_72 A_68 A_64) rfl rfl rfl (by decide +kernel) ⟨Nat.le_of_ble_eq_true rfl, Nat.le_of_ble_eq_true rfl⟩) (va_recv hK hP (ci := 5) (q0 := 23) rfl rfl) rfl hl.1 rfl (Nat.le_of_ble_eq_true rfl) dX1_bring_12 ⟨Nat.le_of_ble_eq_true rfl, Nat.le_of_ble_eq_true rfl⟩ hP hD hS Jn.same (fun r3 σ4 H locs hP hD hS hp => ?_)
    have hP : va_P D vwCl (W5 k ad (σ4)) H := hP
    have hD : va_D A (W5 k ad (σ4)) := hD
    refine lv_if_eq (tgt := 22) hx hb dX1_bring_15 (by decide) (fun c5 => ?_) (fun c5 => ?_)
    · have hp := hp.1 c5
      refine lv_iconst (v := 0) hx hb dX1_bring_22 (by decide) ?_
      exact B_23 0 p1 p2 (σ4) _ _ _  hP hD hS (lv_sub hl [0, 1, 2] rfl) hp
    · have hp := hp.2 c5
      exact B_18 p1 p2 (σ4) _ _ _  hP hD hS (lv_sub hl [0, 1, 2] rfl) hp
def q_X1_find_39  (post : Int32 → Mem → Prop)  (σ : Mem) : Prop := post (-1) (σ)
def q_X1_find_31  (post : Int32 → Mem → Prop)  (x2 : Int32) (σ : Mem) : Prop := post x2 (σ)
def q_X1_find_2  (post : Int32 → Mem → Prop) (kE_31 : Int32 → Mem → Prop) (kE_39 : Mem → Prop) (kc_2 : Int32 → Int32 → Mem → Prop) (x1 : Int32) (x2 : Int32) (σ : Mem) : Prop := ((((σ) 23 3) ≤ x2 → kE_39 (σ)) ∧ (¬ (((σ) 23 3) ≤ x2) → (vp_in x2 12 ∧ (vp_in x1 5 ∧ (vp_in (x2 - 1) 12 ∧ (vp_in x1 5 ∧ ((((σ) (27 + x2.toNatClampNeg) x1.toNatClampNeg) = ((σ) (27 + ((x2 - 1).toNatClampNeg)) x1.toNatClampNeg) → (∀ v1007 : Int32, v1007 = x2 + 1 → kc_2 x1 v1007 (σ))) ∧ (¬ (((σ) (27 + x2.toNatClampNeg) x1.toNatClampNeg) = ((σ) (27 + ((x2 - 1).toNatClampNeg)) x1.toNatClampNeg)) → kE_31 x2 (σ)))))))))
def q_X1_find  (post : Int32 → Mem → Prop) (p1 : Int32) (σ : Mem) : Prop := (∃ n9 : Nat, lp_3 (q_X1_find_2 post (q_X1_find_31 post) (q_X1_find_39 post)) n9 p1 1 (σ))
abbrev rm_X1_find : Room := { frames := 0, cells := 0, slots := 0, locals := 0 }
abbrev wq_X1_find : List Cond := Cond.code yX1_find cX1_find 3 (some .int) :: wALL
set_option maxHeartbeats 4000000 in
set_option maxRecDepth 100000 in
theorem c_X1_find (l : Launch) (D : va_G) (k ad : Nat → Nat) {sz : Nat} {σ : Mem} {p1 : Int32} {post : Int32 → Mem → Prop} (hp : q_X1_find post p1 σ) : Met l yX1_find wq_X1_find rm_X1_find (va_Pc [.ref (ad 23), .int p1] (Pw D k (W5 k ad (σ)) sz)) (va_Qi post (fun u => Bw D (W5 k ad (σ)) sz (W5 k ad u)) (va_A (W5 k ad (σ)) sz)) 0 0 (va_A (W5 k ad (σ)) sz) := by
  refine fw_i (wf := fun u : Mem => W5 k ad u) (by decide) rfl (Nat.le_of_ble_eq_true rfl) ?_
  intro p e s m args below meth c A Q ls hC hP hD hl hret
  obtain ⟨⟨hx, hb, hml, hown, hts⟩, hG, hA⟩ := id hC
  have hK := hG.1
  have hS : va_S A s.heap s.heap [] := va_S.rf
  have hin_X1 : ∀ w ∈ u_ws RX1 TX1 4, w ∈ wq_X1_find := fun w h => List.mem_cons_of_mem _ (iU_X1 w h)
  have hf_29 := hts _ (List.mem_cons_of_mem _ A_61)
  have hf_11 := hts _ (List.mem_cons_of_mem _ A_56)
  have hl : lv_has ls 3 [(0, .ref (ad 23)), (1, .int p1)] := hl
  have hown : s.vm.findClass RX1 = some m.cls := hown
  unfold q_X1_find at hp
  have B_39 : ∀  (σ : Mem) (H : Heap) (locs : List Loc) (ls : Array Slot), va_P D vwCl (W5 k ad (σ)) H → va_D A (W5 k ad (σ)) → va_S A s.heap H locs → lv_has ls 3 [] → (q_X1_find_39 post)  σ → W p l e rm_X1_find s m args below meth c H locs 0 0 Q (F0 m 39 ls []) := by
    intro  σ H locs ls hP hD hS hl hp
    unfold q_X1_find_39 at hp
    refine lv_iconst (v := (-1)) hx hb dX1_find_39 (by decide) ?_
    exact hret (-1) (σ) _ _ _ _ _ _ dX1_find_40 rfl hP hD hS (Nat.le_of_ble_eq_true rfl) (Nat.le_of_ble_eq_true rfl) hp
  have B_31 : ∀ (x2 : Int32) (σ : Mem) (H : Heap) (locs : List Loc) (ls : Array Slot), va_P D vwCl (W5 k ad (σ)) H → va_D A (W5 k ad (σ)) → va_S A s.heap H locs → lv_has ls 3 [(2, .int x2)] → (q_X1_find_31 post) x2 σ → W p l e rm_X1_find s m args below meth c H locs 0 0 Q (F0 m 31 ls []) := by
    intro x2 σ H locs ls hP hD hS hl hp
    unfold q_X1_find_31 at hp
    refine lv_iload_n hx hb dX1_find_31 rfl (lv_at hl 0 rfl) ?_
    exact hret x2 (σ) _ _ _ _ _ _ dX1_find_32 rfl hP hD hS (Nat.le_of_ble_eq_true rfl) (Nat.le_of_ble_eq_true rfl) hp
  have B_2 : ∀ (n_2 : Nat) (x1 : Int32) (x2 : Int32) (σ : Mem) (H : Heap) (locs : List Loc) (ls : Array Slot), va_P D vwCl (W5 k ad (σ)) H → va_D A (W5 k ad (σ)) → va_S A s.heap H locs → lv_has ls 3 [(0, .ref (ad 23)), (1, .int x1), (2, .int x2)] → lp_3 (q_X1_find_2 post (q_X1_find_31 post) (q_X1_find_39 post)) n_2 x1 x2 σ → W p l e rm_X1_find s m args below meth c H locs 0 0 Q (F0 m 2 ls []) := by
    intro n_2
    induction n_2 with
    | zero => intro x1 x2 σ H locs ls hP hD hS hl hp; exact hp.elim
    | succ n_2 ih_2 =>
      intro x1 x2 σ H locs ls hP hD hS hl hp
      have hp : q_X1_find_2 post (q_X1_find_31 post) (q_X1_find_39 post) (lp_3 (q_X1_find_2 post (q_X1_find_31 post) (q_X1_find_39 post)) n_2) x1 x2 σ := hp
      unfold q_X1_find_2 at hp
      refine lv_iload_n hx hb dX1_find_2 rfl (lv_at hl 2 rfl) ?_
      refine lv_aload_n hx hb dX1_find_3 rfl (lv_at hl 0 rfl) ?_
      refine va_get (D := D) (ci := 5) (C := RX1) (T := TX1) (N := 4) hx hb hts hin_X1 hown hK hP 23 rfl rfl 3 (by decide) hf_29 (fun _ h9 => h9) rfl dX1_find_4 ?_
      refine lv_icmp_ge (tgt := 39) hx hb dX1_find_7 (by decide) (fun c10001 => ?_) (fun c10001 => ?_)
      · have hp := hp.1 c10001
        exact B_39  (σ) _ _ _  hP hD hS (lv_sub hl [] rfl) hp
      · have hp := hp.2 c10001
        refine lv_aload_n hx hb dX1_find_10 rfl (lv_at hl 0 rfl) ?_
        refine va_get (D := D) (ci := 5) (C := RX1) (T := TX1) (N := 4) hx hb hts hin_X1 hown hK hP 23 rfl rfl 0 (by decide) hf_11 (fun _ h9 => h9) rfl dX1_find_11 ?_
        refine lv_iload_n hx hb dX1_find_14 rfl (lv_at hl 2 rfl) ?_
        obtain ⟨h10002, hp⟩ := hp
        refine va_ald2 hx hb hK hP 24 2 rfl rfl h10002 (if_some (vin_lt h10002) _) dX1_find_15 ?_
        refine lv_iload_n hx hb dX1_find_16 rfl (lv_at hl 1 rfl) ?_
        obtain ⟨h10003, hp⟩ := hp
        refine va_iald hx hb hK hP (27 + x2.toNatClampNeg) 0 (W5_kept k ad (σ) (vin_lt h10002)) rfl h10003 dX1_find_17 ?_
        refine lv_aload_n hx hb dX1_find_18 rfl (lv_at hl 0 rfl) ?_
        refine va_get (D := D) (ci := 5) (C := RX1) (T := TX1) (N := 4) hx hb hts hin_X1 hown hK hP 23 rfl rfl 0 (by decide) hf_11 (fun _ h9 => h9) rfl dX1_find_19 ?_
        refine lv_iload_n hx hb dX1_find_22 rfl (lv_at hl 2 rfl) ?_
        refine lv_iconst (v := 1) hx hb dX1_find_23 (by decide) ?_
        refine lv_isub hx hb dX1_find_24 ?_
        obtain ⟨h10004, hp⟩ := hp
        refine va_ald2 hx hb hK hP 24 2 rfl rfl h10004 (if_some (vin_lt h10004) _) dX1_find_25 ?_
        refine lv_iload_n hx hb dX1_find_26 rfl (lv_at hl 1 rfl) ?_
        obtain ⟨h10005, hp⟩ := hp
        refine va_iald hx hb hK hP (27 + ((x2 - 1).toNatClampNeg)) 0 (W5_kept k ad (σ) (vin_lt h10004)) rfl h10005 dX1_find_27 ?_
        refine lv_icmp_eq (tgt := 33) hx hb dX1_find_28 (by decide) (fun c10006 => ?_) (fun c10006 => ?_)
        · have hp := hp.1 c10006
          obtain ⟨v10007, ev10007⟩ : ∃ z : Int32, z = x2 + 1 := ⟨_, rfl⟩
          have hp := hp v10007 ev10007
          refine lv_iinc (v := v10007) (lv' := [(2, .int v10007), (0, .ref (ad 23)), (1, .int x1)]) hx hb dX1_find_33 hl (k := 2) rfl (by rw [ev10007]; rfl) (by decide) rfl (fun ls hl => ?_)
          refine lv_goto (tgt := 2) hx hb dX1_find_36 (by decide) ?_
          exact ih_2 x1 v10007 (σ) _ _ _  hP hD hS (lv_sub hl [1, 2, 0] rfl) hp
        · have hp := hp.2 c10006
          exact B_31 x2 (σ) _ _ _  hP hD hS (lv_sub hl [2] rfl) hp
  refine lv_iconst (v := 1) hx hb dX1_find_0 (by decide) ?_
  refine lv_istore_n (lv' := [(2, .int 1), (0, .ref (ad 23)), (1, .int p1)]) hx hb dX1_find_1 rfl hl (by decide) rfl (fun ls hl => ?_)
  obtain ⟨n9, hp⟩ := hp
  exact B_2 n9 p1 1 (σ) _ _ _  hP hD hS (lv_sub hl [1, 2, 0] rfl) hp
def q_X1_keep  (post : Int32 → Mem → Prop) (σ : Mem) : Prop := ((((σ) 23 3) < 12 → (vp_in ((σ) 23 3) 12 ∧ (∀ σ3 : Mem, σ3 = mup (σ) (27 + (((σ) 23 3).toNatClampNeg)) (va_cpy ((σ) 22) ((σ) (27 + (((σ) 23 3).toNatClampNeg))) ((0 : Int32).toNatClampNeg) ((0 : Int32).toNatClampNeg) ((5 : Int32).toNatClampNeg)) → (∀ σ4 : Mem, σ4 = mst (σ3) 23 3 (((σ3) 23 3) + 1) → post (((σ4) 23 3) - 1) (σ4))))) ∧ (¬ (((σ) 23 3) < 12) → post (-1) (σ)))
abbrev rm_X1_keep : Room := { frames := 1, cells := 0, slots := 0, locals := 80 }
abbrev wq_X1_keep : List Cond := Cond.code yX1_keep cX1_keep 2 (some .int) :: wALL
set_option maxHeartbeats 4000000 in
set_option maxRecDepth 100000 in
theorem c_X1_keep (l : Launch) (D : va_G) (k ad : Nat → Nat) {sz : Nat} {σ : Mem} {post : Int32 → Mem → Prop} (hp : q_X1_keep post σ) : Met l yX1_keep wq_X1_keep rm_X1_keep (va_Pc [.ref (ad 23), .ref (ad 22)] (Pw D k (W5 k ad (σ)) sz)) (va_Qi post (fun u => Bw D (W5 k ad (σ)) sz (W5 k ad u)) (va_A (W5 k ad (σ)) sz)) 0 0 (va_A (W5 k ad (σ)) sz) := by
  refine fw_i (wf := fun u : Mem => W5 k ad u) (by decide) rfl (Nat.le_of_ble_eq_true rfl) ?_
  intro p e s m args below meth c A Q ls hC hP hD hl hret
  obtain ⟨⟨hx, hb, hml, hown, hts⟩, hG, hA⟩ := id hC
  have hK := hG.1
  have hS : va_S A s.heap s.heap [] := va_S.rf
  have hin_X1 : ∀ w ∈ u_ws RX1 TX1 4, w ∈ wq_X1_keep := fun w h => List.mem_cons_of_mem _ (iU_X1 w h)
  have hf_29 := hts _ (List.mem_cons_of_mem _ A_61)
  have hf_11 := hts _ (List.mem_cons_of_mem _ A_56)
  have hl : lv_has ls 2 [(0, .ref (ad 23)), (1, .ref (ad 22))] := hl
  have hown : s.vm.findClass RX1 = some m.cls := hown
  unfold q_X1_keep at hp
  refine lv_aload_n hx hb dX1_keep_0 rfl (lv_at hl 0 rfl) ?_
  refine va_get (D := D) (ci := 5) (C := RX1) (T := TX1) (N := 4) hx hb hts hin_X1 hown hK hP 23 rfl rfl 3 (by decide) hf_29 (fun _ h9 => h9) rfl dX1_keep_1 ?_
  refine lv_bipush (v := 12) hx hb dX1_keep_4 (by decide) ?_
  refine lv_icmp_lt (tgt := 11) hx hb dX1_keep_6 (by decide) (fun c1 => ?_) (fun c1 => ?_)
  · have hp := hp.1 c1
    refine lv_aload_n hx hb dX1_keep_11 rfl (lv_at hl 1 rfl) ?_
    refine lv_iconst (v := 0) hx hb dX1_keep_12 (by decide) ?_
    refine lv_aload_n hx hb dX1_keep_13 rfl (lv_at hl 0 rfl) ?_
    refine va_get (D := D) (ci := 5) (C := RX1) (T := TX1) (N := 4) hx hb hts hin_X1 hown hK hP 23 rfl rfl 0 (by decide) hf_11 (fun _ h9 => h9) rfl dX1_keep_14 ?_
    refine lv_aload_n hx hb dX1_keep_17 rfl (lv_at hl 0 rfl) ?_
    refine va_get (D := D) (ci := 5) (C := RX1) (T := TX1) (N := 4) hx hb hts hin_X1 hown hK hP 23 rfl rfl 3 (by decide) hf_29 (fun _ h9 => h9) rfl dX1_keep_18 ?_
    obtain ⟨h2, hp⟩ := hp
    refine va_ald2 hx hb hK hP 24 2 rfl rfl h2 (if_some (vin_lt h2) _) dX1_keep_21 ?_
    refine lv_iconst (v := 0) hx hb dX1_keep_22 (by decide) ?_
    refine lv_iconst (v := 5) hx hb dX1_keep_23 (by decide) ?_
    refine va_copyi hx hb (by rw [hml]; exact hl.1.symm) hown (hts _ (List.mem_cons_of_mem _ A_62)) (hts _ (List.mem_cons_of_mem _ A_35)) (hts _ (List.mem_cons_of_mem _ A_36)) (hts _ (List.mem_cons_of_mem _ A_37)) hK hP hD hS 22 (27 + (((σ) 23 3).toNatClampNeg)) 0 0 rfl (W5_kept k ad (σ) (vin_lt h2)) rfl rfl rfl (by decide) (by decide) (by decide) (by decide) (by decide) (fun _ _ => rfl) (Nat.le_of_ble_eq_true rfl) (by decide +kernel) dX1_keep_24 (fun H locs hP hD hS => ?_)
    rw [W5_keptS k ad (σ) (vin_lt h2)] at hP hD
    obtain ⟨σ3, eσ3⟩ : ∃ z : Mem, z = mup (σ) (27 + (((σ) 23 3).toNatClampNeg)) (va_cpy ((σ) 22) ((σ) (27 + (((σ) 23 3).toNatClampNeg))) ((0 : Int32).toNatClampNeg) ((0 : Int32).toNatClampNeg) ((5 : Int32).toNatClampNeg)) := ⟨_, rfl⟩
    have hp := hp σ3 eσ3
    have hP : va_P D vwCl (W5 k ad (σ3)) H := by rw [eσ3]; exact hP
    have hD : va_D A (W5 k ad (σ3)) := by rw [eσ3]; exact hD
    refine lv_aload_n hx hb dX1_keep_27 rfl (lv_at hl 0 rfl) ?_
    refine lv_dup hx hb dX1_keep_28 rfl ?_
    refine va_get (D := D) (ci := 5) (C := RX1) (T := TX1) (N := 4) hx hb hts hin_X1 hown hK hP 23 rfl rfl 3 (by decide) hf_29 (fun _ h9 => h9) rfl dX1_keep_29 ?_
    refine lv_iconst (v := 1) hx hb dX1_keep_32 (by decide) ?_
    refine lv_iadd hx hb dX1_keep_33 ?_
    refine va_put (D := D) (ci := 5) (v := .int (((σ3) 23 3) + 1)) (ty := .int) (C := RX1) (T := TX1) (N := 4) hx hb hts hin_X1 tyX1 tyX1_ok nmX1 hown hK hP hD hS 23 rfl rfl 3 (by decide) hf_29 (fun _ h9 => h9) rfl (by decide +kernel) rfl rfl (Nat.le_of_ble_eq_true rfl) dX1_keep_34 (fun H locs hP hD hS => ?_)
    obtain ⟨σ4, eσ4⟩ : ∃ z : Mem, z = mst (σ3) 23 3 (((σ3) 23 3) + 1) := ⟨_, rfl⟩
    have hp := hp σ4 eσ4
    have hP : va_P D vwCl (W5 k ad (σ4)) H := by rw [eσ4]; exact hP
    have hD : va_D A (W5 k ad (σ4)) := by rw [eσ4]; exact hD
    refine lv_aload_n hx hb dX1_keep_37 rfl (lv_at hl 0 rfl) ?_
    refine va_get (D := D) (ci := 5) (C := RX1) (T := TX1) (N := 4) hx hb hts hin_X1 hown hK hP 23 rfl rfl 3 (by decide) hf_29 (fun _ h9 => h9) rfl dX1_keep_38 ?_
    refine lv_iconst (v := 1) hx hb dX1_keep_41 (by decide) ?_
    refine lv_isub hx hb dX1_keep_42 ?_
    exact hret (((σ4) 23 3) - 1) (σ4) _ _ _ _ _ _ dX1_keep_43 rfl hP hD hS (Nat.le_of_ble_eq_true rfl) (Nat.le_of_ble_eq_true rfl) hp
  · have hp := hp.2 c1
    refine lv_iconst (v := (-1)) hx hb dX1_keep_9 (by decide) ?_
    exact hret (-1) (σ) _ _ _ _ _ _ dX1_keep_10 rfl hP hD hS (Nat.le_of_ble_eq_true rfl) (Nat.le_of_ble_eq_true rfl) hp
