def q_X0_fittingAt_139  (post : Int32 → Mem → Prop)  (x2 : Int32) (σ : Mem) : Prop := post x2 (σ)
def q_X0_fittingAt_133  (post : Int32 → Mem → Prop) (kE_139 : Int32 → Mem → Prop) (kc_9 : Int32 → Int32 → Int32 → Mem → Prop) (x1 : Int32) (x2 : Int32) (x3 : Int32) (σ : Mem) : Prop := (∀ v3001 : Int32, v3001 = x3 + 1 → kc_9 x1 x2 v3001 (σ))
def q_X0_fittingAt_100  (post : Int32 → Mem → Prop) (kE_139 : Int32 → Mem → Prop) (kc_9 : Int32 → Int32 → Int32 → Mem → Prop) (x1 : Int32) (x2 : Int32) (x3 : Int32) (x4 : Int32) (x5 : Int32) (σ : Mem) : Prop := ((x5 ≠ x1 → (q_X0_fittingAt_133 post kE_139 kc_9) x1 x2 x3 (σ)) ∧ (x5 = x1 → ((x1 ≤ x4 → (q_X0_fittingAt_133 post kE_139 kc_9) x1 x2 x3 (σ)) ∧ (¬ (x1 ≤ x4) → (vp_in x4 5 ∧ (q_X2_letsByOther (fun (r2004 : Int32) (σ2005 : Mem) => (∀ v2006 : Int32, v2006 = (x2 &&& r2004) → (q_X0_fittingAt_133 post kE_139 kc_9) x1 v2006 x3 (σ2005))) x3 1 ((1 : Int32) <<< (((σ) 20 x4.toNatClampNeg) &&& 31)) (σ)))))))
def q_X0_fittingAt_9  (post : Int32 → Mem → Prop) (kE_139 : Int32 → Mem → Prop) (kc_9 : Int32 → Int32 → Int32 → Mem → Prop) (x1 : Int32) (x2 : Int32) (x3 : Int32) (σ : Mem) : Prop := ((((σ) 1 10) ≤ x3 → kE_139 x2 (σ)) ∧ (¬ (((σ) 1 10) ≤ x3) → (q_X5_contains (fun (r1002 : Int32) (σ1003 : Mem) => ((r1002 = 0 → (q_X0_fittingAt_133 post kE_139 kc_9) x1 x2 x3 (σ)) ∧ (¬ (r1002 = 0) → (q_X2_isOfTwo (fun (r1005 : Int32) (σ1006 : Mem) => ((r1005 = 0 → (q_X0_fittingAt_133 post kE_139 kc_9) x1 x2 x3 (σ1006)) ∧ (¬ (r1005 = 0) → (vp_in x3 30 ∧ (∀ v1009 : Int32, v1009 = ((σ1006) 6 x3.toNatClampNeg) → (vp_in x3 30 ∧ (∀ v1011 : Int32, v1011 = ((σ1006) 7 x3.toNatClampNeg) → ((v1009 ≠ x1 → (q_X0_fittingAt_100 post kE_139 kc_9) x1 x2 x3 v1009 v1011 (σ1006)) ∧ (v1009 = x1 → ((x1 ≤ v1011 → (q_X0_fittingAt_100 post kE_139 kc_9) x1 x2 x3 v1009 v1011 (σ1006)) ∧ (¬ (x1 ≤ v1011) → (vp_in v1011 5 ∧ (q_X2_letsByOther (fun (r1015 : Int32) (σ1016 : Mem) => (∀ v1017 : Int32, v1017 = (x2 &&& r1015) → (q_X0_fittingAt_133 post kE_139 kc_9) x1 v1017 x3 (σ1016))) x3 0 ((1 : Int32) <<< (((σ1006) 20 v1011.toNatClampNeg) &&& 31)) (σ1006)))))))))))))) x3 (σ))))) ((σ) 18 5) x3 (σ))))
def q_X0_fittingAt  (post : Int32 → Mem → Prop) (p1 : Int32) (σ : Mem) : Prop := (vp_in p1 5 ∧ (∀ v2 : Int32, v2 = ((σ) 19 p1.toNatClampNeg) → (∃ n9 : Nat, lp_4 (q_X0_fittingAt_9 post (q_X0_fittingAt_139 post)) n9 p1 v2 0 (σ))))
abbrev rm_X0_fittingAt : Room := { frames := 1, cells := 0, slots := 0, locals := 24 }
abbrev wq_X0_fittingAt : List Cond := Cond.code yX0_fittingAt cX0_fittingAt 6 (some .int) :: wALL
set_option maxHeartbeats 4000000 in
set_option maxRecDepth 100000 in
theorem c_X0_fittingAt (l : Launch) (D : va_G) (k ad : Nat → Nat) {sz : Nat} {σ : Mem} {p1 : Int32} {post : Int32 → Mem → Prop} (hp : q_X0_fittingAt post p1 σ) : Met l yX0_fittingAt wq_X0_fittingAt rm_X0_fittingAt (va_Pc [.ref (ad 18), .int p1] (Pw D k (W5 k ad (σ)) sz)) (va_Qi post (fun u => Bw D (W5 k ad (σ)) sz (W5 k ad u)) (va_A (W5 k ad (σ)) sz)) 0 0 (va_A (W5 k ad (σ)) sz) := by
  refine fw_i (wf := fun u : Mem => W5 k ad u) (by decide) rfl (Nat.le_of_ble_eq_true rfl) ?_
  intro p e s m args below meth c A Q ls hC hP hD hl hret
  obtain ⟨⟨hx, hb, hml, hown, hts⟩, hG, hA⟩ := id hC
  have hK := hG.1
  have hS : va_S A s.heap s.heap [] := va_S.rf
  have hin_X0 : ∀ w ∈ u_ws RX0 TX0 7, w ∈ wq_X0_fittingAt := fun w h => List.mem_cons_of_mem _ (iU_X0 w h)
  have hf_9 := hts _ (List.mem_cons_of_mem _ A_6)
  have hf_21 := hts _ (List.mem_cons_of_mem _ A_9)
  have hin_X2 : ∀ w ∈ u_ws RX2 TX2 11, w ∈ wq_X0_fittingAt := fun w h => List.mem_cons_of_mem _ (iU_X2 w h)
  have hf_76 := hts _ (List.mem_cons_of_mem _ A_20)
  have hf_46 := hts _ (List.mem_cons_of_mem _ A_21)
  have hf_81 := hts _ (List.mem_cons_of_mem _ A_22)
  have hf_84 := hts _ (List.mem_cons_of_mem _ A_23)
  have hf_15 := hts _ (List.mem_cons_of_mem _ A_7)
  have hl : lv_has ls 6 [(0, .ref (ad 18)), (1, .int p1)] := hl
  have hown : s.vm.findClass RX0 = some m.cls := hown
  unfold q_X0_fittingAt at hp
  have B_139 : ∀ (x2 : Int32) (σ : Mem) (H : Heap) (locs : List Loc) (ls : Array Slot), va_P D vwCl (W5 k ad (σ)) H → va_D A (W5 k ad (σ)) → va_S A s.heap H locs → lv_has ls 6 [(2, .int x2)] → (q_X0_fittingAt_139 post) x2 σ → W p l e rm_X0_fittingAt s m args below meth c H locs 0 0 Q (F0 m 139 ls []) := by
    intro x2 σ H locs ls hP hD hS hl hp
    unfold q_X0_fittingAt_139 at hp
    refine lv_iload_n hx hb dX0_fittingAt_139 rfl (lv_at hl 0 rfl) ?_
    exact hret x2 (σ) _ _ _ _ _ _ dX0_fittingAt_140 rfl hP hD hS (Nat.le_of_ble_eq_true rfl) (Nat.le_of_ble_eq_true rfl) hp
  have B_9 : ∀ (n_9 : Nat) (x1 : Int32) (x2 : Int32) (x3 : Int32) (σ : Mem) (H : Heap) (locs : List Loc) (ls : Array Slot), va_P D vwCl (W5 k ad (σ)) H → va_D A (W5 k ad (σ)) → va_S A s.heap H locs → lv_has ls 6 [(0, .ref (ad 18)), (1, .int x1), (2, .int x2), (3, .int x3)] → lp_4 (q_X0_fittingAt_9 post (q_X0_fittingAt_139 post)) n_9 x1 x2 x3 σ → W p l e rm_X0_fittingAt s m args below meth c H locs 0 0 Q (F0 m 9 ls []) := by
    intro n_9
    induction n_9 with
    | zero => intro x1 x2 x3 σ H locs ls hP hD hS hl hp; exact hp.elim
    | succ n_9 ih_9 =>
      have B_133 : ∀ (x1 : Int32) (x2 : Int32) (x3 : Int32) (σ : Mem) (H : Heap) (locs : List Loc) (ls : Array Slot), va_P D vwCl (W5 k ad (σ)) H → va_D A (W5 k ad (σ)) → va_S A s.heap H locs → lv_has ls 6 [(0, .ref (ad 18)), (1, .int x1), (2, .int x2), (3, .int x3)] → (q_X0_fittingAt_133 post (q_X0_fittingAt_139 post) (lp_4 (q_X0_fittingAt_9 post (q_X0_fittingAt_139 post)) n_9)) x1 x2 x3 σ → W p l e rm_X0_fittingAt s m args below meth c H locs 0 0 Q (F0 m 133 ls []) := by
        intro x1 x2 x3 σ H locs ls hP hD hS hl hp
        unfold q_X0_fittingAt_133 at hp
        obtain ⟨v30001, ev30001⟩ : ∃ z : Int32, z = x3 + 1 := ⟨_, rfl⟩
        have hp := hp v30001 ev30001
        refine lv_iinc (v := v30001) (lv' := [(3, .int v30001), (0, .ref (ad 18)), (1, .int x1), (2, .int x2)]) hx hb dX0_fittingAt_133 hl (k := 3) rfl (by rw [ev30001]; rfl) (by decide) rfl (fun ls hl => ?_)
        refine lv_goto (tgt := 9) hx hb dX0_fittingAt_136 (by decide) ?_
        exact ih_9 x1 x2 v30001 (σ) _ _ _  hP hD hS (lv_sub hl [1, 2, 3, 0] rfl) hp
      have B_100 : ∀ (x1 : Int32) (x2 : Int32) (x3 : Int32) (x4 : Int32) (x5 : Int32) (σ : Mem) (H : Heap) (locs : List Loc) (ls : Array Slot), va_P D vwCl (W5 k ad (σ)) H → va_D A (W5 k ad (σ)) → va_S A s.heap H locs → lv_has ls 6 [(0, .ref (ad 18)), (1, .int x1), (2, .int x2), (3, .int x3), (4, .int x4), (5, .int x5)] → (q_X0_fittingAt_100 post (q_X0_fittingAt_139 post) (lp_4 (q_X0_fittingAt_9 post (q_X0_fittingAt_139 post)) n_9)) x1 x2 x3 x4 x5 σ → W p l e rm_X0_fittingAt s m args below meth c H locs 0 0 Q (F0 m 100 ls []) := by
        intro x1 x2 x3 x4 x5 σ H locs ls hP hD hS hl hp
        unfold q_X0_fittingAt_100 at hp
        refine lv_iload hx hb dX0_fittingAt_100 (lv_at hl 5 rfl) ?_
        refine lv_iload_n hx hb dX0_fittingAt_102 rfl (lv_at hl 1 rfl) ?_
        refine lv_icmp_ne (tgt := 133) hx hb dX0_fittingAt_103 (by decide) (fun c20001 => ?_) (fun c20001 => ?_)
        · have hp := hp.1 c20001
          exact B_133 x1 x2 x3 (σ) _ _ _  hP hD hS (lv_sub hl [0, 1, 2, 3] rfl) hp
        · have hp := hp.2 c20001
          refine lv_iload hx hb dX0_fittingAt_106 (lv_at hl 4 rfl) ?_
          refine lv_iload_n hx hb dX0_fittingAt_108 rfl (lv_at hl 1 rfl) ?_
          refine lv_icmp_ge (tgt := 133) hx hb dX0_fittingAt_109 (by decide) (fun c20002 => ?_) (fun c20002 => ?_)
          · have hp := hp.1 c20002
            exact B_133 x1 x2 x3 (σ) _ _ _  hP hD hS (lv_sub hl [0, 1, 2, 3] rfl) hp
          · have hp := hp.2 c20002
            refine lv_iload_n hx hb dX0_fittingAt_112 rfl (lv_at hl 2 rfl) ?_
            refine lv_aload_n hx hb dX0_fittingAt_113 rfl (lv_at hl 0 rfl) ?_
            refine va_get (D := D) (ci := 4) (C := RX0) (T := TX0) (N := 7) hx hb hts hin_X0 hown hK hP 18 rfl rfl 0 (by decide) hf_21 (fun _ h9 => h9) rfl dX0_fittingAt_114 ?_
            refine lv_iload_n hx hb dX0_fittingAt_117 rfl (lv_at hl 3 rfl) ?_
            refine lv_iconst (v := 1) hx hb dX0_fittingAt_118 (by decide) ?_
            refine lv_iconst (v := 1) hx hb dX0_fittingAt_119 (by decide) ?_
            refine lv_aload_n hx hb dX0_fittingAt_120 rfl (lv_at hl 0 rfl) ?_
            refine va_get (D := D) (ci := 4) (C := RX0) (T := TX0) (N := 7) hx hb hts hin_X0 hown hK hP 18 rfl rfl 2 (by decide) hf_15 (fun _ h9 => h9) rfl dX0_fittingAt_121 ?_
            refine lv_iload hx hb dX0_fittingAt_124 (lv_at hl 4 rfl) ?_
            obtain ⟨h20003, hp⟩ := hp
            refine va_iald hx hb hK hP 20 0 rfl rfl h20003 dX0_fittingAt_126 ?_
            refine lv_ishl hx hb dX0_fittingAt_127 ?_
            refine fw_ciV (As := [.int x3, .int 1, .int ((1 : Int32) <<< (((σ) 20 x4.toNatClampNeg) &&& 31))]) (rest := [.int x2]) hC (c_X2_letsByOther l D k ad hp) (cwV 3 hts (gA_V A_30 A_31 A_32 A_29 A_17) rfl rfl rfl (by decide +kernel) ⟨Nat.le_of_ble_eq_true rfl, Nat.le_of_ble_eq_true rfl⟩) (va_recv hK hP (ci := 6) (q0 := 1) rfl rfl) rfl hl.1 rfl (Nat.le_of_ble_eq_true rfl) dX0_fittingAt_128 ⟨Nat.le_of_ble_eq_true rfl, Nat.le_of_ble_eq_true rfl⟩ hP hD hS Jn.same (fun r20004 σ20005 H locs hP hD hS hp => ?_)
            have hP : va_P D vwCl (W5 k ad (σ20005)) H := hP
            have hD : va_D A (W5 k ad (σ20005)) := hD
            refine lv_iand hx hb dX0_fittingAt_131 ?_
            refine lv_topi (fun v20006 ev20006 => ?_)
            have hp := hp v20006 ev20006
            refine lv_istore_n (lv' := [(2, .int v20006), (0, .ref (ad 18)), (1, .int x1), (3, .int x3), (4, .int x4), (5, .int x5)]) hx hb dX0_fittingAt_132 rfl hl (by decide) rfl (fun ls hl => ?_)
            exact B_133 x1 v20006 x3 (σ20005) _ _ _  hP hD hS (lv_sub hl [1, 2, 0, 3] rfl) hp
      intro x1 x2 x3 σ H locs ls hP hD hS hl hp
      have hp : q_X0_fittingAt_9 post (q_X0_fittingAt_139 post) (lp_4 (q_X0_fittingAt_9 post (q_X0_fittingAt_139 post)) n_9) x1 x2 x3 σ := hp
      unfold q_X0_fittingAt_9 at hp
      refine lv_iload_n hx hb dX0_fittingAt_9 rfl (lv_at hl 3 rfl) ?_
      refine lv_aload_n hx hb dX0_fittingAt_10 rfl (lv_at hl 0 rfl) ?_
      refine va_get (D := D) (ci := 4) (C := RX0) (T := TX0) (N := 7) hx hb hts hin_X0 hown hK hP 18 rfl rfl 0 (by decide) hf_21 (fun _ h9 => h9) rfl dX0_fittingAt_11 ?_
      refine va_get (D := D) (ci := 6) (C := RX2) (T := TX2) (N := 11) hx hb hts hin_X2 hown hK hP 1 rfl rfl 10 (by decide) hf_76 (fun _ h9 => h9) rfl dX0_fittingAt_14 ?_
      refine lv_icmp_ge (tgt := 139) hx hb dX0_fittingAt_17 (by decide) (fun c10001 => ?_) (fun c10001 => ?_)
      · have hp := hp.1 c10001
        exact B_139 x2 (σ) _ _ _  hP hD hS (lv_sub hl [2] rfl) hp
      · have hp := hp.2 c10001
        refine lv_aload_n hx hb dX0_fittingAt_20 rfl (lv_at hl 0 rfl) ?_
        refine va_get (D := D) (ci := 4) (C := RX0) (T := TX0) (N := 7) hx hb hts hin_X0 hown hK hP 18 rfl rfl 5 (by decide) hf_46 (fun _ h9 => h9) rfl dX0_fittingAt_21 ?_
        refine lv_iload_n hx hb dX0_fittingAt_24 rfl (lv_at hl 3 rfl) ?_
        refine fw_ciSN (As := [.int ((σ) 18 5), .int x3]) (rest := []) hC (c_X5_contains l D k hp) ⟨va_cnB 2 hts (gA_0 A_14) rfl rfl rfl (GG.nm hG (q := (RX0, 69, yX5_contains, "Meetjoin")) 1 rfl) (hts _ (List.mem_cons_of_mem _ A_25)) (by decide +kernel) ⟨Nat.le_of_ble_eq_true rfl, Nat.le_of_ble_eq_true rfl⟩, (hts _ (List.mem_cons_of_mem _ A_24)), trivial⟩ rfl hl.1 rfl (Nat.le_of_ble_eq_true rfl) dX0_fittingAt_25 ⟨Nat.le_of_ble_eq_true rfl, Nat.le_of_ble_eq_true rfl⟩ P_nil D_nil hS (Jn.pure (w0 := fun _ : Mem => []) hP hD) (fun r10002 σ10003 H locs hP hD hS hp => ?_)
        have hP : va_P D vwCl (W5 k ad (σ)) H := hP
        have hD : va_D A (W5 k ad (σ)) := hD
        refine lv_if_eq (tgt := 133) hx hb dX0_fittingAt_28 (by decide) (fun c10004 => ?_) (fun c10004 => ?_)
        · have hp := hp.1 c10004
          exact B_133 x1 x2 x3 (σ) _ _ _  hP hD hS (lv_sub hl [0, 1, 2, 3] rfl) hp
        · have hp := hp.2 c10004
          refine lv_aload_n hx hb dX0_fittingAt_31 rfl (lv_at hl 0 rfl) ?_
          refine va_get (D := D) (ci := 4) (C := RX0) (T := TX0) (N := 7) hx hb hts hin_X0 hown hK hP 18 rfl rfl 0 (by decide) hf_21 (fun _ h9 => h9) rfl dX0_fittingAt_32 ?_
          refine lv_iload_n hx hb dX0_fittingAt_35 rfl (lv_at hl 3 rfl) ?_
          refine fw_ciV (As := [.int x3]) (rest := []) hC (c_X2_isOfTwo l D k ad hp) (cwV 1 hts (gA_V A_26 A_27 A_28 A_29 A_15) rfl rfl rfl (by decide +kernel) ⟨Nat.le_of_ble_eq_true rfl, Nat.le_of_ble_eq_true rfl⟩) (va_recv hK hP (ci := 6) (q0 := 1) rfl rfl) rfl hl.1 rfl (Nat.le_of_ble_eq_true rfl) dX0_fittingAt_36 ⟨Nat.le_of_ble_eq_true rfl, Nat.le_of_ble_eq_true rfl⟩ hP hD hS Jn.same (fun r10005 σ10006 H locs hP hD hS hp => ?_)
          have hP : va_P D vwCl (W5 k ad (σ10006)) H := hP
          have hD : va_D A (W5 k ad (σ10006)) := hD
          refine lv_if_eq (tgt := 133) hx hb dX0_fittingAt_39 (by decide) (fun c10007 => ?_) (fun c10007 => ?_)
          · have hp := hp.1 c10007
            exact B_133 x1 x2 x3 (σ10006) _ _ _  hP hD hS (lv_sub hl [0, 1, 2, 3] rfl) hp
          · have hp := hp.2 c10007
            refine lv_aload_n hx hb dX0_fittingAt_42 rfl (lv_at hl 0 rfl) ?_
            refine va_get (D := D) (ci := 4) (C := RX0) (T := TX0) (N := 7) hx hb hts hin_X0 hown hK hP 18 rfl rfl 0 (by decide) hf_21 (fun _ h9 => h9) rfl dX0_fittingAt_43 ?_
            refine va_get (D := D) (ci := 6) (C := RX2) (T := TX2) (N := 11) hx hb hts hin_X2 hown hK hP 1 rfl rfl 4 (by decide) hf_81 (fun _ h9 => h9) rfl dX0_fittingAt_46 ?_
            refine lv_iload_n hx hb dX0_fittingAt_49 rfl (lv_at hl 3 rfl) ?_
            obtain ⟨h10008, hp⟩ := hp
            refine va_iald hx hb hK hP 6 0 rfl rfl h10008 dX0_fittingAt_50 ?_
            refine lv_topi (fun v10009 ev10009 => ?_)
            have hp := hp v10009 ev10009
            refine lv_istore (lv' := [(4, .int v10009), (0, .ref (ad 18)), (1, .int x1), (2, .int x2), (3, .int x3)]) hx hb dX0_fittingAt_51 hl (by decide) rfl (fun ls hl => ?_)
            refine lv_aload_n hx hb dX0_fittingAt_53 rfl (lv_at hl 1 rfl) ?_
            refine va_get (D := D) (ci := 4) (C := RX0) (T := TX0) (N := 7) hx hb hts hin_X0 hown hK hP 18 rfl rfl 0 (by decide) hf_21 (fun _ h9 => h9) rfl dX0_fittingAt_54 ?_
            refine va_get (D := D) (ci := 6) (C := RX2) (T := TX2) (N := 11) hx hb hts hin_X2 hown hK hP 1 rfl rfl 5 (by decide) hf_84 (fun _ h9 => h9) rfl dX0_fittingAt_57 ?_
            refine lv_iload_n hx hb dX0_fittingAt_60 rfl (lv_at hl 4 rfl) ?_
            obtain ⟨h10010, hp⟩ := hp
            refine va_iald hx hb hK hP 7 0 rfl rfl h10010 dX0_fittingAt_61 ?_
            refine lv_topi (fun v10011 ev10011 => ?_)
            have hp := hp v10011 ev10011
            refine lv_istore (lv' := [(5, .int v10011), (4, .int v10009), (0, .ref (ad 18)), (1, .int x1), (2, .int x2), (3, .int x3)]) hx hb dX0_fittingAt_62 hl (by decide) rfl (fun ls hl => ?_)
            refine lv_iload hx hb dX0_fittingAt_64 (lv_at hl 1 rfl) ?_
            refine lv_iload_n hx hb dX0_fittingAt_66 rfl (lv_at hl 3 rfl) ?_
            refine lv_icmp_ne (tgt := 100) hx hb dX0_fittingAt_67 (by decide) (fun c10012 => ?_) (fun c10012 => ?_)
            · have hp := hp.1 c10012
              exact B_100 x1 x2 x3 v10009 v10011 (σ10006) _ _ _  hP hD hS (lv_sub hl [2, 3, 4, 5, 1, 0] rfl) hp
            · have hp := hp.2 c10012
              refine lv_iload hx hb dX0_fittingAt_70 (lv_at hl 0 rfl) ?_
              refine lv_iload_n hx hb dX0_fittingAt_72 rfl (lv_at hl 3 rfl) ?_
              refine lv_icmp_ge (tgt := 100) hx hb dX0_fittingAt_73 (by decide) (fun c10013 => ?_) (fun c10013 => ?_)
              · have hp := hp.1 c10013
                exact B_100 x1 x2 x3 v10009 v10011 (σ10006) _ _ _  hP hD hS (lv_sub hl [2, 3, 4, 5, 1, 0] rfl) hp
              · have hp := hp.2 c10013
                refine lv_iload_n hx hb dX0_fittingAt_76 rfl (lv_at hl 4 rfl) ?_
                refine lv_aload_n hx hb dX0_fittingAt_77 rfl (lv_at hl 2 rfl) ?_
                refine va_get (D := D) (ci := 4) (C := RX0) (T := TX0) (N := 7) hx hb hts hin_X0 hown hK hP 18 rfl rfl 0 (by decide) hf_21 (fun _ h9 => h9) rfl dX0_fittingAt_78 ?_
                refine lv_iload_n hx hb dX0_fittingAt_81 rfl (lv_at hl 5 rfl) ?_
                refine lv_iconst (v := 0) hx hb dX0_fittingAt_82 (by decide) ?_
                refine lv_iconst (v := 1) hx hb dX0_fittingAt_83 (by decide) ?_
                refine lv_aload_n hx hb dX0_fittingAt_84 rfl (lv_at hl 2 rfl) ?_
                refine va_get (D := D) (ci := 4) (C := RX0) (T := TX0) (N := 7) hx hb hts hin_X0 hown hK hP 18 rfl rfl 2 (by decide) hf_15 (fun _ h9 => h9) rfl dX0_fittingAt_85 ?_
                refine lv_iload hx hb dX0_fittingAt_88 (lv_at hl 0 rfl) ?_
                obtain ⟨h10014, hp⟩ := hp
                refine va_iald hx hb hK hP 20 0 rfl rfl h10014 dX0_fittingAt_90 ?_
                refine lv_ishl hx hb dX0_fittingAt_91 ?_
                refine fw_ciV (As := [.int x3, .int 0, .int ((1 : Int32) <<< (((σ10006) 20 v10011.toNatClampNeg) &&& 31))]) (rest := [.int x2]) hC (c_X2_letsByOther l D k ad hp) (cwV 3 hts (gA_V A_30 A_31 A_32 A_29 A_17) rfl rfl rfl (by decide +kernel) ⟨Nat.le_of_ble_eq_true rfl, Nat.le_of_ble_eq_true rfl⟩) (va_recv hK hP (ci := 6) (q0 := 1) rfl rfl) rfl hl.1 rfl (Nat.le_of_ble_eq_true rfl) dX0_fittingAt_92 ⟨Nat.le_of_ble_eq_true rfl, Nat.le_of_ble_eq_true rfl⟩ hP hD hS Jn.same (fun r10015 σ10016 H locs hP hD hS hp => ?_)
                have hP : va_P D vwCl (W5 k ad (σ10016)) H := hP
                have hD : va_D A (W5 k ad (σ10016)) := hD
                refine lv_iand hx hb dX0_fittingAt_95 ?_
                refine lv_topi (fun v10017 ev10017 => ?_)
                have hp := hp v10017 ev10017
                refine lv_istore_n (lv' := [(2, .int v10017), (5, .int v10011), (4, .int v10009), (0, .ref (ad 18)), (1, .int x1), (3, .int x3)]) hx hb dX0_fittingAt_96 rfl hl (by decide) rfl (fun ls hl => ?_)
                refine lv_goto (tgt := 133) hx hb dX0_fittingAt_97 (by decide) ?_
                exact B_133 x1 v10017 x3 (σ10016) _ _ _  hP hD hS (lv_sub hl [3, 4, 0, 5] rfl) hp
  refine lv_aload_n hx hb dX0_fittingAt_0 rfl (lv_at hl 0 rfl) ?_
  refine va_get (D := D) (ci := 4) (C := RX0) (T := TX0) (N := 7) hx hb hts hin_X0 hown hK hP 18 rfl rfl 1 (by decide) hf_9 (fun _ h9 => h9) rfl dX0_fittingAt_1 ?_
  refine lv_iload_n hx hb dX0_fittingAt_4 rfl (lv_at hl 1 rfl) ?_
  obtain ⟨h1, hp⟩ := hp
  refine va_iald hx hb hK hP 19 0 rfl rfl h1 dX0_fittingAt_5 ?_
  refine lv_topi (fun v2 ev2 => ?_)
  have hp := hp v2 ev2
  refine lv_istore_n (lv' := [(2, .int v2), (0, .ref (ad 18)), (1, .int p1)]) hx hb dX0_fittingAt_6 rfl hl (by decide) rfl (fun ls hl => ?_)
  refine lv_iconst (v := 0) hx hb dX0_fittingAt_7 (by decide) ?_
  refine lv_istore_n (lv' := [(3, .int 0), (2, .int v2), (0, .ref (ad 18)), (1, .int p1)]) hx hb dX0_fittingAt_8 rfl hl (by decide) rfl (fun ls hl => ?_)
  obtain ⟨n9, hp⟩ := hp
  exact B_9 n9 p1 v2 0 (σ) _ _ _  hP hD hS (lv_sub hl [2, 3, 1, 0] rfl) hp
def q_X0_chooseFrom_114  (rec : (Mem → Prop) → Int32 → Int32 → Mem → Prop) (post : Mem → Prop)  (σ : Mem) : Prop := post (σ)
def q_X0_chooseFrom_108  (rec : (Mem → Prop) → Int32 → Int32 → Mem → Prop) (post : Mem → Prop) (kE_114 : Mem → Prop) (kc_63 : Int32 → Int32 → Int32 → Int32 → Mem → Prop) (x1 : Int32) (x2 : Int32) (x3 : Int32) (x4 : Int32) (σ : Mem) : Prop := (∀ v3001 : Int32, v3001 = x4 + 1 → kc_63 x1 x2 x3 v3001 (σ))
def q_X0_chooseFrom_63  (rec : (Mem → Prop) → Int32 → Int32 → Mem → Prop) (post : Mem → Prop) (kE_114 : Mem → Prop) (kc_63 : Int32 → Int32 → Int32 → Int32 → Mem → Prop) (x1 : Int32) (x2 : Int32) (x3 : Int32) (x4 : Int32) (σ : Mem) : Prop := ((8 ≤ x4 → kE_114 (σ)) ∧ (¬ (8 ≤ x4) → (q_X5_contains (fun (r2002 : Int32) (σ2003 : Mem) => ((r2002 = 0 → (q_X0_chooseFrom_108 rec post kE_114 kc_63) x1 x2 x3 x4 (σ)) ∧ (¬ (r2002 = 0) → (vp_in x1 5 ∧ (∀ σ2006 : Mem, σ2006 = mst (σ) 20 x1.toNatClampNeg x4 → (vp_in x1 5 ∧ (rec (fun (σ2009 : Mem) => (q_X0_chooseFrom_108 rec post kE_114 kc_63) x1 x2 x3 x4 (σ2009)) (x1 + 1) (x2 + (((σ2006) 3 x1.toNatClampNeg) * x4)) (σ2006)))))))) x3 x4 (σ))))
def q_X0_chooseFrom_17  (rec : (Mem → Prop) → Int32 → Int32 → Mem → Prop) (post : Mem → Prop)  (x1 : Int32) (x2 : Int32) (σ : Mem) : Prop := ((x1 < ((σ) 1 9) → (q_X0_fittingAt (fun (r1002 : Int32) (σ1003 : Mem) => (∃ n9 : Nat, lp_5 (q_X0_chooseFrom_63 rec post (q_X0_chooseFrom_114 rec post)) n9 x1 x2 r1002 0 (σ1003))) x1 (σ))) ∧ (¬ (x1 < ((σ) 1 9)) → (∀ σ1004 : Mem, σ1004 = mst (σ) 18 4 x2 → (¬ ((σ1004) 1 9) < 0 ∧ ((0 : Int32).toNatClampNeg + ((σ1004) 1 9).toNatClampNeg ≤ 5 ∧ ((0 : Int32).toNatClampNeg + ((σ1004) 1 9).toNatClampNeg ≤ 5 ∧ (∀ σ1008 : Mem, σ1008 = mup (σ1004) 21 (va_cpy ((σ1004) 20) ((σ1004) 21) ((0 : Int32).toNatClampNeg) ((0 : Int32).toNatClampNeg) (((σ1004) 1 9).toNatClampNeg)) → post (σ1008))))))))
def q_X0_chooseFrom_b  (rec : (Mem → Prop) → Int32 → Int32 → Mem → Prop) (post : Mem → Prop) (p2 : Int32) (p3 : Int32) (σ : Mem) : Prop := ((((σ) 18 4) = (-1) → (q_X0_chooseFrom_17 rec post) p2 p3 (σ)) ∧ (¬ (((σ) 18 4) = (-1)) → ((p3 < ((σ) 18 4) → (q_X0_chooseFrom_17 rec post) p2 p3 (σ)) ∧ (¬ (p3 < ((σ) 18 4)) → post (σ)))))
def q_X0_chooseFrom  : Nat → (Mem → Prop) → Int32 → Int32 → Mem → Prop
  | 0, _, _, _, _ => False
  | d + 1, post, p2, p3, σ => q_X0_chooseFrom_b  (q_X0_chooseFrom  d) post p2 p3 σ
abbrev rm_X0_chooseFrom (d : Nat) : Room := { frames := d + 10, cells := 0, slots := 0, locals := d * 40 + 600 }
abbrev wq_X0_chooseFrom : List Cond := Cond.code yX0_chooseFrom cX0_chooseFrom 5 none :: wALL
set_option maxHeartbeats 4000000 in
set_option maxRecDepth 100000 in
theorem c_X0_chooseFrom (l : Launch) (D : va_G) (k ad : Nat → Nat) : ∀ (d9 : Nat) {sz : Nat} {σ : Mem} {p2 : Int32} {p3 : Int32} {post : Mem → Prop} (hp : q_X0_chooseFrom d9 post p2 p3 σ), Met l yX0_chooseFrom wq_X0_chooseFrom (rm_X0_chooseFrom d9) (va_Pc [.ref (ad 18), .int p2, .int p3] (Pw D k (W5 k ad (σ)) sz)) (va_Qv post (fun u => Bw D (W5 k ad (σ)) sz (W5 k ad u)) (va_A (W5 k ad (σ)) sz)) 0 0 (va_A (W5 k ad (σ)) sz) := by
  intro d9
  induction d9 with
  | zero => intro _ _ _ _ _ hp; exact hp.elim
  | succ d9 ih9 =>
    intro sz σ p2 p3 post hp
    have hp : q_X0_chooseFrom_b  (q_X0_chooseFrom  d9) post p2 p3 σ := hp
    refine fw_v (wf := fun u : Mem => W5 k ad u) (by decide) rfl (Nat.le_of_ble_eq_true rfl) ?_
    intro p e s m args below meth c A Q ls hC hP hD hl hmn hret
    obtain ⟨⟨hx, hb, hml, hown, hts⟩, hG, hA⟩ := id hC
    have hK := hG.1
    have hS : va_S A s.heap s.heap [] := va_S.rf
    have hin_X0 : ∀ w ∈ u_ws RX0 TX0 7, w ∈ wq_X0_chooseFrom := fun w h => List.mem_cons_of_mem _ (iU_X0 w h)
    have hf_31 := hts _ (List.mem_cons_of_mem _ A_10)
    have hf_21 := hts _ (List.mem_cons_of_mem _ A_9)
    have hin_X2 : ∀ w ∈ u_ws RX2 TX2 11, w ∈ wq_X0_chooseFrom := fun w h => List.mem_cons_of_mem _ (iU_X2 w h)
    have hf_49 := hts _ (List.mem_cons_of_mem _ A_33)
    have hf_15 := hts _ (List.mem_cons_of_mem _ A_7)
    have hf_18 := hts _ (List.mem_cons_of_mem _ A_8)
    have hf_73 := hts _ (List.mem_cons_of_mem _ A_38)
    have hl : lv_has ls 5 [(0, .ref (ad 18)), (1, .int p2), (2, .int p3)] := hl
    have hown : s.vm.findClass RX0 = some m.cls := hown
    unfold q_X0_chooseFrom_b at hp
    have B_114 : ∀  (σ : Mem) (H : Heap) (locs : List Loc) (ls : Array Slot), va_P D vwCl (W5 k ad (σ)) H → va_D A (W5 k ad (σ)) → va_S A s.heap H locs → lv_has ls 5 [] → (q_X0_chooseFrom_114 (q_X0_chooseFrom d9) post)  σ → W p l e (rm_X0_chooseFrom (d9 + 1)) s m args below meth c H locs 0 0 Q (F0 m 114 ls []) := by
      intro  σ H locs ls hP hD hS hl hp
      unfold q_X0_chooseFrom_114 at hp
      exact hret (σ) _ _ _ _ _ _ dX0_chooseFrom_114 hP hD hS (Nat.le_of_ble_eq_true rfl) (Nat.le_of_ble_eq_true rfl) hp
    have B_63 : ∀ (n_63 : Nat) (x1 : Int32) (x2 : Int32) (x3 : Int32) (x4 : Int32) (σ : Mem) (H : Heap) (locs : List Loc) (ls : Array Slot), va_P D vwCl (W5 k ad (σ)) H → va_D A (W5 k ad (σ)) → va_S A s.heap H locs → lv_has ls 5 [(0, .ref (ad 18)), (1, .int x1), (2, .int x2), (3, .int x3), (4, .int x4)] → lp_5 (q_X0_chooseFrom_63 (q_X0_chooseFrom d9) post (q_X0_chooseFrom_114 (q_X0_chooseFrom d9) post)) n_63 x1 x2 x3 x4 σ → W p l e (rm_X0_chooseFrom (d9 + 1)) s m args below meth c H locs 0 0 Q (F0 m 63 ls []) := by
      intro n_63
      induction n_63 with
      | zero => intro x1 x2 x3 x4 σ H locs ls hP hD hS hl hp; exact hp.elim
      | succ n_63 ih_63 =>
        have B_108 : ∀ (x1 : Int32) (x2 : Int32) (x3 : Int32) (x4 : Int32) (σ : Mem) (H : Heap) (locs : List Loc) (ls : Array Slot), va_P D vwCl (W5 k ad (σ)) H → va_D A (W5 k ad (σ)) → va_S A s.heap H locs → lv_has ls 5 [(0, .ref (ad 18)), (1, .int x1), (2, .int x2), (3, .int x3), (4, .int x4)] → (q_X0_chooseFrom_108 (q_X0_chooseFrom d9) post (q_X0_chooseFrom_114 (q_X0_chooseFrom d9) post) (lp_5 (q_X0_chooseFrom_63 (q_X0_chooseFrom d9) post (q_X0_chooseFrom_114 (q_X0_chooseFrom d9) post)) n_63)) x1 x2 x3 x4 σ → W p l e (rm_X0_chooseFrom (d9 + 1)) s m args below meth c H locs 0 0 Q (F0 m 108 ls []) := by
          intro x1 x2 x3 x4 σ H locs ls hP hD hS hl hp
          unfold q_X0_chooseFrom_108 at hp
          obtain ⟨v30001, ev30001⟩ : ∃ z : Int32, z = x4 + 1 := ⟨_, rfl⟩
          have hp := hp v30001 ev30001
          refine lv_iinc (v := v30001) (lv' := [(4, .int v30001), (0, .ref (ad 18)), (1, .int x1), (2, .int x2), (3, .int x3)]) hx hb dX0_chooseFrom_108 hl (k := 4) rfl (by rw [ev30001]; rfl) (by decide) rfl (fun ls hl => ?_)
          refine lv_goto (tgt := 63) hx hb dX0_chooseFrom_111 (by decide) ?_
          exact ih_63 x1 x2 x3 v30001 (σ) _ _ _  hP hD hS (lv_sub hl [1, 2, 3, 4, 0] rfl) hp
        intro x1 x2 x3 x4 σ H locs ls hP hD hS hl hp
        have hp : q_X0_chooseFrom_63 (q_X0_chooseFrom d9) post (q_X0_chooseFrom_114 (q_X0_chooseFrom d9) post) (lp_5 (q_X0_chooseFrom_63 (q_X0_chooseFrom d9) post (q_X0_chooseFrom_114 (q_X0_chooseFrom d9) post)) n_63) x1 x2 x3 x4 σ := hp
        unfold q_X0_chooseFrom_63 at hp
        refine lv_iload hx hb dX0_chooseFrom_63 (lv_at hl 4 rfl) ?_
        refine lv_bipush (v := 8) hx hb dX0_chooseFrom_65 (by decide) ?_
        refine lv_icmp_ge (tgt := 114) hx hb dX0_chooseFrom_67 (by decide) (fun c20001 => ?_) (fun c20001 => ?_)
        · have hp := hp.1 c20001
          exact B_114  (σ) _ _ _  hP hD hS (lv_sub hl [] rfl) hp
        · have hp := hp.2 c20001
          refine lv_iload_n hx hb dX0_chooseFrom_70 rfl (lv_at hl 3 rfl) ?_
          refine lv_iload hx hb dX0_chooseFrom_71 (lv_at hl 4 rfl) ?_
          refine fw_ciSN (As := [.int x3, .int x4]) (rest := []) hC (c_X5_contains l D k hp) ⟨va_cnB 2 hts (gA_0 A_14) rfl rfl rfl (GG.nm hG (q := (RX0, 69, yX5_contains, "Meetjoin")) 1 rfl) (hts _ (List.mem_cons_of_mem _ A_25)) (by decide +kernel) ⟨by show 0 + 1 ≤ d9 + 1 + 10; omega, by show 8 + (2 + 11) + 0 ≤ (d9 + 1) * 40 + 600; omega⟩, (hts _ (List.mem_cons_of_mem _ A_24)), trivial⟩ rfl hl.1 rfl (Nat.le_of_ble_eq_true rfl) dX0_chooseFrom_73 ⟨Nat.le_of_ble_eq_true rfl, Nat.le_of_ble_eq_true rfl⟩ P_nil D_nil hS (Jn.pure (w0 := fun _ : Mem => []) hP hD) (fun r20002 σ20003 H locs hP hD hS hp => ?_)
          have hP : va_P D vwCl (W5 k ad (σ)) H := hP
          have hD : va_D A (W5 k ad (σ)) := hD
          refine lv_if_eq (tgt := 108) hx hb dX0_chooseFrom_76 (by decide) (fun c20004 => ?_) (fun c20004 => ?_)
          · have hp := hp.1 c20004
            exact B_108 x1 x2 x3 x4 (σ) _ _ _  hP hD hS (lv_sub hl [0, 1, 2, 3, 4] rfl) hp
          · have hp := hp.2 c20004
            refine lv_aload_n hx hb dX0_chooseFrom_79 rfl (lv_at hl 0 rfl) ?_
            refine va_get (D := D) (ci := 4) (C := RX0) (T := TX0) (N := 7) hx hb hts hin_X0 hown hK hP 18 rfl rfl 2 (by decide) hf_15 (fun _ h9 => h9) rfl dX0_chooseFrom_80 ?_
            refine lv_iload_n hx hb dX0_chooseFrom_83 rfl (lv_at hl 1 rfl) ?_
            refine lv_iload hx hb dX0_chooseFrom_84 (lv_at hl 4 rfl) ?_
            obtain ⟨h20005, hp⟩ := hp
            refine va_iast hx hb hK hP hD hS 20 0 rfl rfl h20005 dX0_chooseFrom_86 (fun H locs hP hD hS => ?_)
            obtain ⟨σ20006, eσ20006⟩ : ∃ z : Mem, z = mst (σ) 20 x1.toNatClampNeg x4 := ⟨_, rfl⟩
            have hp := hp σ20006 eσ20006
            have hP : va_P D vwCl (W5 k ad (σ20006)) H := by rw [eσ20006]; exact hP
            have hD : va_D A (W5 k ad (σ20006)) := by rw [eσ20006]; exact hD
            refine lv_aload_n hx hb dX0_chooseFrom_87 rfl (lv_at hl 0 rfl) ?_
            refine lv_iload_n hx hb dX0_chooseFrom_88 rfl (lv_at hl 1 rfl) ?_
            refine lv_iconst (v := 1) hx hb dX0_chooseFrom_89 (by decide) ?_
            refine lv_iadd hx hb dX0_chooseFrom_90 ?_
            refine lv_iload_n hx hb dX0_chooseFrom_91 rfl (lv_at hl 2 rfl) ?_
            refine lv_aload_n hx hb dX0_chooseFrom_92 rfl (lv_at hl 0 rfl) ?_
            refine va_get (D := D) (ci := 4) (C := RX0) (T := TX0) (N := 7) hx hb hts hin_X0 hown hK hP 18 rfl rfl 0 (by decide) hf_21 (fun _ h9 => h9) rfl dX0_chooseFrom_93 ?_
            refine va_get (D := D) (ci := 6) (C := RX2) (T := TX2) (N := 11) hx hb hts hin_X2 hown hK hP 1 rfl rfl 1 (by decide) hf_73 (fun _ h9 => h9) rfl dX0_chooseFrom_96 ?_
            refine lv_iload_n hx hb dX0_chooseFrom_99 rfl (lv_at hl 1 rfl) ?_
            obtain ⟨h20007, hp⟩ := hp
            refine va_iald hx hb hK hP 3 0 rfl rfl h20007 dX0_chooseFrom_100 ?_
            refine lv_iload hx hb dX0_chooseFrom_101 (lv_at hl 4 rfl) ?_
            refine lv_imul hx hb dX0_chooseFrom_103 ?_
            refine lv_iadd hx hb dX0_chooseFrom_104 ?_
            refine fw_cvS (As := [.ref (ad 18), .int (x1 + 1), .int (x2 + (((σ20006) 3 x1.toNatClampNeg) * x4))]) (rest := []) hC (ih9 hp) (va_cwS 3 hts (gA_S A_43 A_44 A_42 A_45) rfl rfl rfl (by decide +kernel) ⟨by show d9 + 10 + 1 ≤ d9 + 1 + 10; omega, by show 8 + (5 + 11) + (d9 * 40 + 600) ≤ (d9 + 1) * 40 + 600; omega⟩) rfl hl.1 rfl (Nat.le_of_ble_eq_true rfl) dX0_chooseFrom_105 ⟨Nat.le_of_ble_eq_true rfl, Nat.le_of_ble_eq_true rfl⟩ hP hD hS Jn.same (fun σ20009 H locs hP hD hS hp => ?_)
            have hP : va_P D vwCl (W5 k ad (σ20009)) H := hP
            have hD : va_D A (W5 k ad (σ20009)) := hD
            exact B_108 x1 x2 x3 x4 (σ20009) _ _ _  hP hD hS (lv_sub hl [0, 1, 2, 3, 4] rfl) hp
    have B_17 : ∀ (x1 : Int32) (x2 : Int32) (σ : Mem) (H : Heap) (locs : List Loc) (ls : Array Slot), va_P D vwCl (W5 k ad (σ)) H → va_D A (W5 k ad (σ)) → va_S A s.heap H locs → lv_has ls 5 [(0, .ref (ad 18)), (1, .int x1), (2, .int x2)] → (q_X0_chooseFrom_17 (q_X0_chooseFrom d9) post) x1 x2 σ → W p l e (rm_X0_chooseFrom (d9 + 1)) s m args below meth c H locs 0 0 Q (F0 m 17 ls []) := by
      intro x1 x2 σ H locs ls hP hD hS hl hp
      unfold q_X0_chooseFrom_17 at hp
      refine lv_iload_n hx hb dX0_chooseFrom_17 rfl (lv_at hl 1 rfl) ?_
      refine lv_aload_n hx hb dX0_chooseFrom_18 rfl (lv_at hl 0 rfl) ?_
      refine va_get (D := D) (ci := 4) (C := RX0) (T := TX0) (N := 7) hx hb hts hin_X0 hown hK hP 18 rfl rfl 0 (by decide) hf_21 (fun _ h9 => h9) rfl dX0_chooseFrom_19 ?_
      refine va_get (D := D) (ci := 6) (C := RX2) (T := TX2) (N := 11) hx hb hts hin_X2 hown hK hP 1 rfl rfl 9 (by decide) hf_49 (fun _ h9 => h9) rfl dX0_chooseFrom_22 ?_
      refine lv_icmp_lt (tgt := 54) hx hb dX0_chooseFrom_25 (by decide) (fun c10001 => ?_) (fun c10001 => ?_)
      · have hp := hp.1 c10001
        refine lv_aload_n hx hb dX0_chooseFrom_54 rfl (lv_at hl 0 rfl) ?_
        refine lv_iload_n hx hb dX0_chooseFrom_55 rfl (lv_at hl 1 rfl) ?_
        refine fw_ciV (As := [.int x1]) (rest := []) hC (c_X0_fittingAt l D k ad hp) (cwV 1 hts (gA_V A_39 A_40 A_41 A_42 A_19) rfl rfl rfl (by decide +kernel) ⟨by show 1 + 1 ≤ d9 + 1 + 10; omega, by show 8 + (6 + 11) + 24 ≤ (d9 + 1) * 40 + 600; omega⟩) (va_recv hK hP (ci := 4) (q0 := 18) rfl rfl) rfl hl.1 rfl (Nat.le_of_ble_eq_true rfl) dX0_chooseFrom_56 ⟨Nat.le_of_ble_eq_true rfl, Nat.le_of_ble_eq_true rfl⟩ hP hD hS Jn.same (fun r10002 σ10003 H locs hP hD hS hp => ?_)
        have hP : va_P D vwCl (W5 k ad (σ10003)) H := hP
        have hD : va_D A (W5 k ad (σ10003)) := hD
        refine lv_istore_n (lv' := [(3, .int r10002), (0, .ref (ad 18)), (1, .int x1), (2, .int x2)]) hx hb dX0_chooseFrom_59 rfl hl (by decide) rfl (fun ls hl => ?_)
        refine lv_iconst (v := 0) hx hb dX0_chooseFrom_60 (by decide) ?_
        refine lv_istore (lv' := [(4, .int 0), (3, .int r10002), (0, .ref (ad 18)), (1, .int x1), (2, .int x2)]) hx hb dX0_chooseFrom_61 hl (by decide) rfl (fun ls hl => ?_)
        obtain ⟨n9, hp⟩ := hp
        exact B_63 n9 x1 x2 r10002 0 (σ10003) _ _ _  hP hD hS (lv_sub hl [2, 3, 4, 1, 0] rfl) hp
      · have hp := hp.2 c10001
        refine lv_aload_n hx hb dX0_chooseFrom_28 rfl (lv_at hl 0 rfl) ?_
        refine lv_iload_n hx hb dX0_chooseFrom_29 rfl (lv_at hl 2 rfl) ?_
        refine va_put (D := D) (ci := 4) (v := .int x2) (ty := .int) (C := RX0) (T := TX0) (N := 7) hx hb hts hin_X0 tyX0 tyX0_ok nmX0 hown hK hP hD hS 18 rfl rfl 4 (by decide) hf_31 (fun _ h9 => h9) rfl (by decide +kernel) rfl rfl (Nat.le_of_ble_eq_true rfl) dX0_chooseFrom_30 (fun H locs hP hD hS => ?_)
        obtain ⟨σ10004, eσ10004⟩ : ∃ z : Mem, z = mst (σ) 18 4 x2 := ⟨_, rfl⟩
        have hp := hp σ10004 eσ10004
        have hP : va_P D vwCl (W5 k ad (σ10004)) H := by rw [eσ10004]; exact hP
        have hD : va_D A (W5 k ad (σ10004)) := by rw [eσ10004]; exact hD
        refine lv_aload_n hx hb dX0_chooseFrom_33 rfl (lv_at hl 0 rfl) ?_
        refine va_get (D := D) (ci := 4) (C := RX0) (T := TX0) (N := 7) hx hb hts hin_X0 hown hK hP 18 rfl rfl 2 (by decide) hf_15 (fun _ h9 => h9) rfl dX0_chooseFrom_34 ?_
        refine lv_iconst (v := 0) hx hb dX0_chooseFrom_37 (by decide) ?_
        refine lv_aload_n hx hb dX0_chooseFrom_38 rfl (lv_at hl 0 rfl) ?_
        refine va_get (D := D) (ci := 4) (C := RX0) (T := TX0) (N := 7) hx hb hts hin_X0 hown hK hP 18 rfl rfl 3 (by decide) hf_18 (fun _ h9 => h9) rfl dX0_chooseFrom_39 ?_
        refine lv_iconst (v := 0) hx hb dX0_chooseFrom_42 (by decide) ?_
        refine lv_aload_n hx hb dX0_chooseFrom_43 rfl (lv_at hl 0 rfl) ?_
        refine va_get (D := D) (ci := 4) (C := RX0) (T := TX0) (N := 7) hx hb hts hin_X0 hown hK hP 18 rfl rfl 0 (by decide) hf_21 (fun _ h9 => h9) rfl dX0_chooseFrom_44 ?_
        refine va_get (D := D) (ci := 6) (C := RX2) (T := TX2) (N := 11) hx hb hts hin_X2 hown hK hP 1 rfl rfl 9 (by decide) hf_49 (fun _ h9 => h9) rfl dX0_chooseFrom_47 ?_
        obtain ⟨h10005, hp⟩ := hp
        obtain ⟨h10006, hp⟩ := hp
        obtain ⟨h10007, hp⟩ := hp
        refine va_copyi hx hb (by rw [hml]; exact hl.1.symm) hown (hts _ (List.mem_cons_of_mem _ A_34)) (hts _ (List.mem_cons_of_mem _ A_35)) (hts _ (List.mem_cons_of_mem _ A_36)) (hts _ (List.mem_cons_of_mem _ A_37)) hK hP hD hS 20 21 0 0 rfl rfl rfl rfl rfl (by decide) (by decide) h10005 h10006 h10007 (fun _ _ => rfl) (Nat.le_of_ble_eq_true rfl) (Nat.le_trans (m := 200) (by decide +kernel) (by show 200 ≤ (d9 + 1) * 40 + 600; omega)) dX0_chooseFrom_50 (fun H locs hP hD hS => ?_)
        obtain ⟨σ10008, eσ10008⟩ : ∃ z : Mem, z = mup (σ10004) 21 (va_cpy ((σ10004) 20) ((σ10004) 21) ((0 : Int32).toNatClampNeg) ((0 : Int32).toNatClampNeg) (((σ10004) 1 9).toNatClampNeg)) := ⟨_, rfl⟩
        have hp := hp σ10008 eσ10008
        have hP : va_P D vwCl (W5 k ad (σ10008)) H := by rw [eσ10008]; exact hP
        have hD : va_D A (W5 k ad (σ10008)) := by rw [eσ10008]; exact hD
        exact hret (σ10008) _ _ _ _ _ _ dX0_chooseFrom_53 hP hD hS (Nat.le_of_ble_eq_true rfl) (Nat.le_of_ble_eq_true rfl) hp
    refine lv_aload_n hx hb dX0_chooseFrom_0 rfl (lv_at hl 0 rfl) ?_
    refine va_get (D := D) (ci := 4) (C := RX0) (T := TX0) (N := 7) hx hb hts hin_X0 hown hK hP 18 rfl rfl 4 (by decide) hf_31 (fun _ h9 => h9) rfl dX0_chooseFrom_1 ?_
    refine lv_iconst (v := (-1)) hx hb dX0_chooseFrom_4 (by decide) ?_
    refine lv_icmp_eq (tgt := 17) hx hb dX0_chooseFrom_5 (by decide) (fun c1 => ?_) (fun c1 => ?_)
    · have hp := hp.1 c1
      exact B_17 p2 p3 (σ) _ _ _  hP hD hS (lv_sub hl [0, 1, 2] rfl) hp
    · have hp := hp.2 c1
      refine lv_iload_n hx hb dX0_chooseFrom_8 rfl (lv_at hl 2 rfl) ?_
      refine lv_aload_n hx hb dX0_chooseFrom_9 rfl (lv_at hl 0 rfl) ?_
      refine va_get (D := D) (ci := 4) (C := RX0) (T := TX0) (N := 7) hx hb hts hin_X0 hown hK hP 18 rfl rfl 4 (by decide) hf_31 (fun _ h9 => h9) rfl dX0_chooseFrom_10 ?_
      refine lv_icmp_lt (tgt := 17) hx hb dX0_chooseFrom_13 (by decide) (fun c2 => ?_) (fun c2 => ?_)
      · have hp := hp.1 c2
        exact B_17 p2 p3 (σ) _ _ _  hP hD hS (lv_sub hl [0, 1, 2] rfl) hp
      · have hp := hp.2 c2
        exact hret (σ) _ _ _ _ _ _ dX0_chooseFrom_16 hP hD hS (Nat.le_of_ble_eq_true rfl) (Nat.le_of_ble_eq_true rfl) hp
def q_X0_countFrom_74  (rec : (Mem → Prop) → Int32 → Mem → Prop) (post : Mem → Prop)  (σ : Mem) : Prop := post (σ)
def q_X0_countFrom_68  (rec : (Mem → Prop) → Int32 → Mem → Prop) (post : Mem → Prop) (kE_74 : Mem → Prop) (kc_30 : Int32 → Int32 → Int32 → Mem → Prop) (x1 : Int32) (x2 : Int32) (x3 : Int32) (σ : Mem) : Prop := (∀ v2001 : Int32, v2001 = x3 + 1 → kc_30 x1 x2 v2001 (σ))
def q_X0_countFrom_30  (rec : (Mem → Prop) → Int32 → Mem → Prop) (post : Mem → Prop) (kE_74 : Mem → Prop) (kc_30 : Int32 → Int32 → Int32 → Mem → Prop) (x1 : Int32) (x2 : Int32) (x3 : Int32) (σ : Mem) : Prop := ((8 ≤ x3 → kE_74 (σ)) ∧ (¬ (8 ≤ x3) → ((500 ≤ ((σ) 18 6) → kE_74 (σ)) ∧ (¬ (500 ≤ ((σ) 18 6)) → (q_X5_contains (fun (r1003 : Int32) (σ1004 : Mem) => ((r1003 = 0 → (q_X0_countFrom_68 rec post kE_74 kc_30) x1 x2 x3 (σ)) ∧ (¬ (r1003 = 0) → (vp_in x1 5 ∧ (∀ σ1007 : Mem, σ1007 = mst (σ) 20 x1.toNatClampNeg x3 → (rec (fun (σ1009 : Mem) => (q_X0_countFrom_68 rec post kE_74 kc_30) x1 x2 x3 (σ1009)) (x1 + 1) (σ1007))))))) x2 x3 (σ))))))
def q_X0_countFrom_b  (rec : (Mem → Prop) → Int32 → Mem → Prop) (post : Mem → Prop) (p2 : Int32) (σ : Mem) : Prop := ((p2 < ((σ) 1 9) → (q_X0_fittingAt (fun (r2 : Int32) (σ3 : Mem) => (∃ n9 : Nat, lp_4 (q_X0_countFrom_30 rec post (q_X0_countFrom_74 rec post)) n9 p2 r2 0 (σ3))) p2 (σ))) ∧ (¬ (p2 < ((σ) 1 9)) → (∀ σ4 : Mem, σ4 = mst (σ) 18 6 (((σ) 18 6) + 1) → post (σ4))))
def q_X0_countFrom  : Nat → (Mem → Prop) → Int32 → Mem → Prop
  | 0, _, _, _ => False
  | d + 1, post, p2, σ => q_X0_countFrom_b  (q_X0_countFrom  d) post p2 σ
abbrev rm_X0_countFrom (d : Nat) : Room := { frames := d + 10, cells := 0, slots := 0, locals := d * 40 + 600 }
abbrev wq_X0_countFrom : List Cond := Cond.code yX0_countFrom cX0_countFrom 4 none :: wALL
set_option maxHeartbeats 4000000 in
set_option maxRecDepth 100000 in
theorem c_X0_countFrom (l : Launch) (D : va_G) (k ad : Nat → Nat) : ∀ (d9 : Nat) {sz : Nat} {σ : Mem} {p2 : Int32} {post : Mem → Prop} (hp : q_X0_countFrom d9 post p2 σ), Met l yX0_countFrom wq_X0_countFrom (rm_X0_countFrom d9) (va_Pc [.ref (ad 18), .int p2] (Pw D k (W5 k ad (σ)) sz)) (va_Qv post (fun u => Bw D (W5 k ad (σ)) sz (W5 k ad u)) (va_A (W5 k ad (σ)) sz)) 0 0 (va_A (W5 k ad (σ)) sz) := by
  intro d9
  induction d9 with
  | zero => intro _ _ _ _ hp; exact hp.elim
  | succ d9 ih9 =>
    intro sz σ p2 post hp
    have hp : q_X0_countFrom_b  (q_X0_countFrom  d9) post p2 σ := hp
    refine fw_v (wf := fun u : Mem => W5 k ad u) (by decide) rfl (Nat.le_of_ble_eq_true rfl) ?_
    intro p e s m args below meth c A Q ls hC hP hD hl hmn hret
    obtain ⟨⟨hx, hb, hml, hown, hts⟩, hG, hA⟩ := id hC
    have hK := hG.1
    have hS : va_S A s.heap s.heap [] := va_S.rf
    have hin_X0 : ∀ w ∈ u_ws RX0 TX0 7, w ∈ wq_X0_countFrom := fun w h => List.mem_cons_of_mem _ (iU_X0 w h)
    have hf_21 := hts _ (List.mem_cons_of_mem _ A_9)
    have hin_X2 : ∀ w ∈ u_ws RX2 TX2 11, w ∈ wq_X0_countFrom := fun w h => List.mem_cons_of_mem _ (iU_X2 w h)
    have hf_49 := hts _ (List.mem_cons_of_mem _ A_33)
    have hf_58 := hts _ (List.mem_cons_of_mem _ A_48)
    have hf_15 := hts _ (List.mem_cons_of_mem _ A_7)
    have hl : lv_has ls 4 [(0, .ref (ad 18)), (1, .int p2)] := hl
    have hown : s.vm.findClass RX0 = some m.cls := hown
    unfold q_X0_countFrom_b at hp
    have B_74 : ∀  (σ : Mem) (H : Heap) (locs : List Loc) (ls : Array Slot), va_P D vwCl (W5 k ad (σ)) H → va_D A (W5 k ad (σ)) → va_S A s.heap H locs → lv_has ls 4 [] → (q_X0_countFrom_74 (q_X0_countFrom d9) post)  σ → W p l e (rm_X0_countFrom (d9 + 1)) s m args below meth c H locs 0 0 Q (F0 m 74 ls []) := by
      intro  σ H locs ls hP hD hS hl hp
      unfold q_X0_countFrom_74 at hp
      exact hret (σ) _ _ _ _ _ _ dX0_countFrom_74 hP hD hS (Nat.le_of_ble_eq_true rfl) (Nat.le_of_ble_eq_true rfl) hp
    have B_30 : ∀ (n_30 : Nat) (x1 : Int32) (x2 : Int32) (x3 : Int32) (σ : Mem) (H : Heap) (locs : List Loc) (ls : Array Slot), va_P D vwCl (W5 k ad (σ)) H → va_D A (W5 k ad (σ)) → va_S A s.heap H locs → lv_has ls 4 [(0, .ref (ad 18)), (1, .int x1), (2, .int x2), (3, .int x3)] → lp_4 (q_X0_countFrom_30 (q_X0_countFrom d9) post (q_X0_countFrom_74 (q_X0_countFrom d9) post)) n_30 x1 x2 x3 σ → W p l e (rm_X0_countFrom (d9 + 1)) s m args below meth c H locs 0 0 Q (F0 m 30 ls []) := by
      intro n_30
      induction n_30 with
      | zero => intro x1 x2 x3 σ H locs ls hP hD hS hl hp; exact hp.elim
      | succ n_30 ih_30 =>
        have B_68 : ∀ (x1 : Int32) (x2 : Int32) (x3 : Int32) (σ : Mem) (H : Heap) (locs : List Loc) (ls : Array Slot), va_P D vwCl (W5 k ad (σ)) H → va_D A (W5 k ad (σ)) → va_S A s.heap H locs → lv_has ls 4 [(0, .ref (ad 18)), (1, .int x1), (2, .int x2), (3, .int x3)] → (q_X0_countFrom_68 (q_X0_countFrom d9) post (q_X0_countFrom_74 (q_X0_countFrom d9) post) (lp_4 (q_X0_countFrom_30 (q_X0_countFrom d9) post (q_X0_countFrom_74 (q_X0_countFrom d9) post)) n_30)) x1 x2 x3 σ → W p l e (rm_X0_countFrom (d9 + 1)) s m args below meth c H locs 0 0 Q (F0 m 68 ls []) := by
          intro x1 x2 x3 σ H locs ls hP hD hS hl hp
          unfold q_X0_countFrom_68 at hp
          obtain ⟨v20001, ev20001⟩ : ∃ z : Int32, z = x3 + 1 := ⟨_, rfl⟩
          have hp := hp v20001 ev20001
          refine lv_iinc (v := v20001) (lv' := [(3, .int v20001), (0, .ref (ad 18)), (1, .int x1), (2, .int x2)]) hx hb dX0_countFrom_68 hl (k := 3) rfl (by rw [ev20001]; rfl) (by decide) rfl (fun ls hl => ?_)
          refine lv_goto (tgt := 30) hx hb dX0_countFrom_71 (by decide) ?_
          exact ih_30 x1 x2 v20001 (σ) _ _ _  hP hD hS (lv_sub hl [1, 2, 3, 0] rfl) hp
        intro x1 x2 x3 σ H locs ls hP hD hS hl hp
        have hp : q_X0_countFrom_30 (q_X0_countFrom d9) post (q_X0_countFrom_74 (q_X0_countFrom d9) post) (lp_4 (q_X0_countFrom_30 (q_X0_countFrom d9) post (q_X0_countFrom_74 (q_X0_countFrom d9) post)) n_30) x1 x2 x3 σ := hp
        unfold q_X0_countFrom_30 at hp
        refine lv_iload_n hx hb dX0_countFrom_30 rfl (lv_at hl 3 rfl) ?_
        refine lv_bipush (v := 8) hx hb dX0_countFrom_31 (by decide) ?_
        refine lv_icmp_ge (tgt := 74) hx hb dX0_countFrom_33 (by decide) (fun c10001 => ?_) (fun c10001 => ?_)
        · have hp := hp.1 c10001
          exact B_74  (σ) _ _ _  hP hD hS (lv_sub hl [] rfl) hp
        · have hp := hp.2 c10001
          refine lv_aload_n hx hb dX0_countFrom_36 rfl (lv_at hl 0 rfl) ?_
          refine va_get (D := D) (ci := 4) (C := RX0) (T := TX0) (N := 7) hx hb hts hin_X0 hown hK hP 18 rfl rfl 6 (by decide) hf_58 (fun _ h9 => h9) rfl dX0_countFrom_37 ?_
          refine lv_sipush (v := 500) hx hb dX0_countFrom_40 (by decide) ?_
          refine lv_icmp_ge (tgt := 74) hx hb dX0_countFrom_43 (by decide) (fun c10002 => ?_) (fun c10002 => ?_)
          · have hp := hp.1 c10002
            exact B_74  (σ) _ _ _  hP hD hS (lv_sub hl [] rfl) hp
          · have hp := hp.2 c10002
            refine lv_iload_n hx hb dX0_countFrom_46 rfl (lv_at hl 2 rfl) ?_
            refine lv_iload_n hx hb dX0_countFrom_47 rfl (lv_at hl 3 rfl) ?_
            refine fw_ciSN (As := [.int x2, .int x3]) (rest := []) hC (c_X5_contains l D k hp) ⟨va_cnB 2 hts (gA_0 A_14) rfl rfl rfl (GG.nm hG (q := (RX0, 69, yX5_contains, "Meetjoin")) 1 rfl) (hts _ (List.mem_cons_of_mem _ A_25)) (by decide +kernel) ⟨by show 0 + 1 ≤ d9 + 1 + 10; omega, by show 8 + (2 + 11) + 0 ≤ (d9 + 1) * 40 + 600; omega⟩, (hts _ (List.mem_cons_of_mem _ A_24)), trivial⟩ rfl hl.1 rfl (Nat.le_of_ble_eq_true rfl) dX0_countFrom_48 ⟨Nat.le_of_ble_eq_true rfl, Nat.le_of_ble_eq_true rfl⟩ P_nil D_nil hS (Jn.pure (w0 := fun _ : Mem => []) hP hD) (fun r10003 σ10004 H locs hP hD hS hp => ?_)
            have hP : va_P D vwCl (W5 k ad (σ)) H := hP
            have hD : va_D A (W5 k ad (σ)) := hD
            refine lv_if_eq (tgt := 68) hx hb dX0_countFrom_51 (by decide) (fun c10005 => ?_) (fun c10005 => ?_)
            · have hp := hp.1 c10005
              exact B_68 x1 x2 x3 (σ) _ _ _  hP hD hS (lv_sub hl [0, 1, 2, 3] rfl) hp
            · have hp := hp.2 c10005
              refine lv_aload_n hx hb dX0_countFrom_54 rfl (lv_at hl 0 rfl) ?_
              refine va_get (D := D) (ci := 4) (C := RX0) (T := TX0) (N := 7) hx hb hts hin_X0 hown hK hP 18 rfl rfl 2 (by decide) hf_15 (fun _ h9 => h9) rfl dX0_countFrom_55 ?_
              refine lv_iload_n hx hb dX0_countFrom_58 rfl (lv_at hl 1 rfl) ?_
              refine lv_iload_n hx hb dX0_countFrom_59 rfl (lv_at hl 3 rfl) ?_
              obtain ⟨h10006, hp⟩ := hp
              refine va_iast hx hb hK hP hD hS 20 0 rfl rfl h10006 dX0_countFrom_60 (fun H locs hP hD hS => ?_)
              obtain ⟨σ10007, eσ10007⟩ : ∃ z : Mem, z = mst (σ) 20 x1.toNatClampNeg x3 := ⟨_, rfl⟩
              have hp := hp σ10007 eσ10007
              have hP : va_P D vwCl (W5 k ad (σ10007)) H := by rw [eσ10007]; exact hP
              have hD : va_D A (W5 k ad (σ10007)) := by rw [eσ10007]; exact hD
              refine lv_aload_n hx hb dX0_countFrom_61 rfl (lv_at hl 0 rfl) ?_
              refine lv_iload_n hx hb dX0_countFrom_62 rfl (lv_at hl 1 rfl) ?_
              refine lv_iconst (v := 1) hx hb dX0_countFrom_63 (by decide) ?_
              refine lv_iadd hx hb dX0_countFrom_64 ?_
              refine fw_cvS (As := [.ref (ad 18), .int (x1 + 1)]) (rest := []) hC (ih9 hp) (va_cwS 2 hts (gA_S A_49 A_50 A_42 A_51) rfl rfl rfl (by decide +kernel) ⟨by show d9 + 10 + 1 ≤ d9 + 1 + 10; omega, by show 8 + (4 + 11) + (d9 * 40 + 600) ≤ (d9 + 1) * 40 + 600; omega⟩) rfl hl.1 rfl (Nat.le_of_ble_eq_true rfl) dX0_countFrom_65 ⟨Nat.le_of_ble_eq_true rfl, Nat.le_of_ble_eq_true rfl⟩ hP hD hS Jn.same (fun σ10009 H locs hP hD hS hp => ?_)
              have hP : va_P D vwCl (W5 k ad (σ10009)) H := hP
              have hD : va_D A (W5 k ad (σ10009)) := hD
              exact B_68 x1 x2 x3 (σ10009) _ _ _  hP hD hS (lv_sub hl [0, 1, 2, 3] rfl) hp
    refine lv_iload_n hx hb dX0_countFrom_0 rfl (lv_at hl 1 rfl) ?_
    refine lv_aload_n hx hb dX0_countFrom_1 rfl (lv_at hl 0 rfl) ?_
    refine va_get (D := D) (ci := 4) (C := RX0) (T := TX0) (N := 7) hx hb hts hin_X0 hown hK hP 18 rfl rfl 0 (by decide) hf_21 (fun _ h9 => h9) rfl dX0_countFrom_2 ?_
    refine va_get (D := D) (ci := 6) (C := RX2) (T := TX2) (N := 11) hx hb hts hin_X2 hown hK hP 1 rfl rfl 9 (by decide) hf_49 (fun _ h9 => h9) rfl dX0_countFrom_5 ?_
    refine lv_icmp_lt (tgt := 22) hx hb dX0_countFrom_8 (by decide) (fun c1 => ?_) (fun c1 => ?_)
    · have hp := hp.1 c1
      refine lv_aload_n hx hb dX0_countFrom_22 rfl (lv_at hl 0 rfl) ?_
      refine lv_iload_n hx hb dX0_countFrom_23 rfl (lv_at hl 1 rfl) ?_
      refine fw_ciV (As := [.int p2]) (rest := []) hC (c_X0_fittingAt l D k ad hp) (cwV 1 hts (gA_V A_39 A_40 A_41 A_42 A_19) rfl rfl rfl (by decide +kernel) ⟨by show 1 + 1 ≤ d9 + 1 + 10; omega, by show 8 + (6 + 11) + 24 ≤ (d9 + 1) * 40 + 600; omega⟩) (va_recv hK hP (ci := 4) (q0 := 18) rfl rfl) rfl hl.1 rfl (Nat.le_of_ble_eq_true rfl) dX0_countFrom_24 ⟨Nat.le_of_ble_eq_true rfl, Nat.le_of_ble_eq_true rfl⟩ hP hD hS Jn.same (fun r2 σ3 H locs hP hD hS hp => ?_)
      have hP : va_P D vwCl (W5 k ad (σ3)) H := hP
      have hD : va_D A (W5 k ad (σ3)) := hD
      refine lv_istore_n (lv' := [(2, .int r2), (0, .ref (ad 18)), (1, .int p2)]) hx hb dX0_countFrom_27 rfl hl (by decide) rfl (fun ls hl => ?_)
      refine lv_iconst (v := 0) hx hb dX0_countFrom_28 (by decide) ?_
      refine lv_istore_n (lv' := [(3, .int 0), (2, .int r2), (0, .ref (ad 18)), (1, .int p2)]) hx hb dX0_countFrom_29 rfl hl (by decide) rfl (fun ls hl => ?_)
      obtain ⟨n9, hp⟩ := hp
      exact B_30 n9 p2 r2 0 (σ3) _ _ _  hP hD hS (lv_sub hl [2, 3, 1, 0] rfl) hp
    · have hp := hp.2 c1
      refine lv_aload_n hx hb dX0_countFrom_11 rfl (lv_at hl 0 rfl) ?_
      refine lv_dup hx hb dX0_countFrom_12 rfl ?_
      refine va_get (D := D) (ci := 4) (C := RX0) (T := TX0) (N := 7) hx hb hts hin_X0 hown hK hP 18 rfl rfl 6 (by decide) hf_58 (fun _ h9 => h9) rfl dX0_countFrom_13 ?_
      refine lv_iconst (v := 1) hx hb dX0_countFrom_16 (by decide) ?_
      refine lv_iadd hx hb dX0_countFrom_17 ?_
      refine va_put (D := D) (ci := 4) (v := .int (((σ) 18 6) + 1)) (ty := .int) (C := RX0) (T := TX0) (N := 7) hx hb hts hin_X0 tyX0 tyX0_ok nmX0 hown hK hP hD hS 18 rfl rfl 6 (by decide) hf_58 (fun _ h9 => h9) rfl (by decide +kernel) rfl rfl (Nat.le_of_ble_eq_true rfl) dX0_countFrom_18 (fun H locs hP hD hS => ?_)
      obtain ⟨σ4, eσ4⟩ : ∃ z : Mem, z = mst (σ) 18 6 (((σ) 18 6) + 1) := ⟨_, rfl⟩
      have hp := hp σ4 eσ4
      have hP : va_P D vwCl (W5 k ad (σ4)) H := by rw [eσ4]; exact hP
      have hD : va_D A (W5 k ad (σ4)) := by rw [eσ4]; exact hD
      exact hret (σ4) _ _ _ _ _ _ dX0_countFrom_21 hP hD hS (Nat.le_of_ble_eq_true rfl) (Nat.le_of_ble_eq_true rfl) hp
def q_X0_findBest_48  (post : Mem → Prop)  (σ : Mem) : Prop := post (σ)
def q_X0_findBest  (post : Mem → Prop) (p2 : Int32) (σ : Mem) : Prop := (∀ σ1 : Mem, σ1 = mup (σ) 19 (va_cpy ((σ) 13) ((σ) 19) ((0 : Int32).toNatClampNeg) ((0 : Int32).toNatClampNeg) ((5 : Int32).toNatClampNeg)) → (∀ σ2 : Mem, σ2 = mst (σ1) 18 5 p2 → (∀ σ3 : Mem, σ3 = mst (σ2) 18 4 (-1) → (∀ σ4 : Mem, σ4 = mup (σ3) 21 (fl_row 5 (-1) ((σ3) 21)) → ((((σ4) 1 9) ≤ 0 → (q_X0_findBest_48 post) (σ4)) ∧ (¬ (((σ4) 1 9) ≤ 0) → (q_X0_chooseFrom 6 (fun (σ7 : Mem) => (q_X0_findBest_48 post) (σ7)) 0 0 (σ4))))))))
abbrev rm_X0_findBest : Room := { frames := 17, cells := 0, slots := 0, locals := 864 }
abbrev wq_X0_findBest : List Cond := Cond.code yX0_findBest cX0_findBest 3 none :: wALL
set_option maxHeartbeats 4000000 in
set_option maxRecDepth 100000 in
theorem c_X0_findBest (l : Launch) (D : va_G) (k ad : Nat → Nat) {sz : Nat} {σ : Mem} {p2 : Int32} {post : Mem → Prop} (hp : q_X0_findBest post p2 σ) : Met l yX0_findBest wq_X0_findBest rm_X0_findBest (va_Pc [.ref (ad 18), .ref (ad 12), .int p2] (Pw D k (W5 k ad (σ)) sz)) (va_Qv post (fun u => Bw D (W5 k ad (σ)) sz (W5 k ad u)) (va_A (W5 k ad (σ)) sz)) 0 0 (va_A (W5 k ad (σ)) sz) := by
  refine fw_v (wf := fun u : Mem => W5 k ad u) (by decide) rfl (Nat.le_of_ble_eq_true rfl) ?_
  intro p e s m args below meth c A Q ls hC hP hD hl hmn hret
  obtain ⟨⟨hx, hb, hml, hown, hts⟩, hG, hA⟩ := id hC
  have hK := hG.1
  have hS : va_S A s.heap s.heap [] := va_S.rf
  have hin_X3 : ∀ w ∈ u_ws RX3 TX3 3, w ∈ wq_X0_findBest := fun w h => List.mem_cons_of_mem _ (iU_X3 w h)
  have hf_35 := hts _ (List.mem_cons_of_mem _ A_46)
  have hin_X0 : ∀ w ∈ u_ws RX0 TX0 7, w ∈ wq_X0_findBest := fun w h => List.mem_cons_of_mem _ (iU_X0 w h)
  have hf_9 := hts _ (List.mem_cons_of_mem _ A_6)
  have hf_46 := hts _ (List.mem_cons_of_mem _ A_21)
  have hf_31 := hts _ (List.mem_cons_of_mem _ A_10)
  have hf_18 := hts _ (List.mem_cons_of_mem _ A_8)
  have hf_21 := hts _ (List.mem_cons_of_mem _ A_9)
  have hin_X2 : ∀ w ∈ u_ws RX2 TX2 11, w ∈ wq_X0_findBest := fun w h => List.mem_cons_of_mem _ (iU_X2 w h)
  have hf_49 := hts _ (List.mem_cons_of_mem _ A_33)
  have hl : lv_has ls 3 [(0, .ref (ad 18)), (1, .ref (ad 12)), (2, .int p2)] := hl
  have hown : s.vm.findClass RX0 = some m.cls := hown
  unfold q_X0_findBest at hp
  have B_48 : ∀  (σ : Mem) (H : Heap) (locs : List Loc) (ls : Array Slot), va_P D vwCl (W5 k ad (σ)) H → va_D A (W5 k ad (σ)) → va_S A s.heap H locs → lv_has ls 3 [] → (q_X0_findBest_48 post)  σ → W p l e rm_X0_findBest s m args below meth c H locs 0 0 Q (F0 m 48 ls []) := by
    intro  σ H locs ls hP hD hS hl hp
    unfold q_X0_findBest_48 at hp
    exact hret (σ) _ _ _ _ _ _ dX0_findBest_48 hP hD hS (Nat.le_of_ble_eq_true rfl) (Nat.le_of_ble_eq_true rfl) hp
  refine lv_aload_n hx hb dX0_findBest_0 rfl (lv_at hl 1 rfl) ?_
  refine va_get (D := D) (ci := 7) (C := RX3) (T := TX3) (N := 3) hx hb hts hin_X3 hown hK hP 12 rfl rfl 1 (by decide) hf_35 (fun _ h9 => h9) rfl dX0_findBest_1 ?_
  refine lv_iconst (v := 0) hx hb dX0_findBest_4 (by decide) ?_
  refine lv_aload_n hx hb dX0_findBest_5 rfl (lv_at hl 0 rfl) ?_
  refine va_get (D := D) (ci := 4) (C := RX0) (T := TX0) (N := 7) hx hb hts hin_X0 hown hK hP 18 rfl rfl 1 (by decide) hf_9 (fun _ h9 => h9) rfl dX0_findBest_6 ?_
  refine lv_iconst (v := 0) hx hb dX0_findBest_9 (by decide) ?_
  refine lv_iconst (v := 5) hx hb dX0_findBest_10 (by decide) ?_
  refine va_copyi hx hb (by rw [hml]; exact hl.1.symm) hown (hts _ (List.mem_cons_of_mem _ A_34)) (hts _ (List.mem_cons_of_mem _ A_35)) (hts _ (List.mem_cons_of_mem _ A_36)) (hts _ (List.mem_cons_of_mem _ A_37)) hK hP hD hS 13 19 0 0 rfl rfl rfl rfl rfl (by decide) (by decide) (by decide) (by decide) (by decide) (fun _ _ => rfl) (Nat.le_of_ble_eq_true rfl) (by decide +kernel) dX0_findBest_11 (fun H locs hP hD hS => ?_)
  obtain ⟨σ1, eσ1⟩ : ∃ z : Mem, z = mup (σ) 19 (va_cpy ((σ) 13) ((σ) 19) ((0 : Int32).toNatClampNeg) ((0 : Int32).toNatClampNeg) ((5 : Int32).toNatClampNeg)) := ⟨_, rfl⟩
  have hp := hp σ1 eσ1
  have hP : va_P D vwCl (W5 k ad (σ1)) H := by rw [eσ1]; exact hP
  have hD : va_D A (W5 k ad (σ1)) := by rw [eσ1]; exact hD
  refine lv_aload_n hx hb dX0_findBest_14 rfl (lv_at hl 0 rfl) ?_
  refine lv_iload_n hx hb dX0_findBest_15 rfl (lv_at hl 2 rfl) ?_
  refine va_put (D := D) (ci := 4) (v := .int p2) (ty := .int) (C := RX0) (T := TX0) (N := 7) hx hb hts hin_X0 tyX0 tyX0_ok nmX0 hown hK hP hD hS 18 rfl rfl 5 (by decide) hf_46 (fun _ h9 => h9) rfl (by decide +kernel) rfl rfl (Nat.le_of_ble_eq_true rfl) dX0_findBest_16 (fun H locs hP hD hS => ?_)
  obtain ⟨σ2, eσ2⟩ : ∃ z : Mem, z = mst (σ1) 18 5 p2 := ⟨_, rfl⟩
  have hp := hp σ2 eσ2
  have hP : va_P D vwCl (W5 k ad (σ2)) H := by rw [eσ2]; exact hP
  have hD : va_D A (W5 k ad (σ2)) := by rw [eσ2]; exact hD
  refine lv_aload_n hx hb dX0_findBest_19 rfl (lv_at hl 0 rfl) ?_
  refine lv_iconst (v := (-1)) hx hb dX0_findBest_20 (by decide) ?_
  refine va_put (D := D) (ci := 4) (v := .int (-1)) (ty := .int) (C := RX0) (T := TX0) (N := 7) hx hb hts hin_X0 tyX0 tyX0_ok nmX0 hown hK hP hD hS 18 rfl rfl 4 (by decide) hf_31 (fun _ h9 => h9) rfl (by decide +kernel) rfl rfl (Nat.le_of_ble_eq_true rfl) dX0_findBest_21 (fun H locs hP hD hS => ?_)
  obtain ⟨σ3, eσ3⟩ : ∃ z : Mem, z = mst (σ2) 18 4 (-1) := ⟨_, rfl⟩
  have hp := hp σ3 eσ3
  have hP : va_P D vwCl (W5 k ad (σ3)) H := by rw [eσ3]; exact hP
  have hD : va_D A (W5 k ad (σ3)) := by rw [eσ3]; exact hD
  refine lv_aload_n hx hb dX0_findBest_24 rfl (lv_at hl 0 rfl) ?_
  refine va_get (D := D) (ci := 4) (C := RX0) (T := TX0) (N := 7) hx hb hts hin_X0 hown hK hP 18 rfl rfl 3 (by decide) hf_18 (fun _ h9 => h9) rfl dX0_findBest_25 ?_
  refine lv_iconst (v := (-1)) hx hb dX0_findBest_28 (by decide) ?_
  refine fw_cvS (As := [.ref (ad 21), .int (-1)]) (rest := []) hC (c_J7_fill l D k (ad 21) 5 ((σ3) 21) (-1) (by decide)) (va_cwS 2 hts (gA_S A_11 A_12 A_13 A_0) rfl rfl rfl (by decide +kernel) ⟨Nat.le_of_ble_eq_true rfl, Nat.le_of_ble_eq_true rfl⟩) rfl hl.1 rfl (Nat.le_of_ble_eq_true rfl) dX0_findBest_29 ⟨Nat.le_of_ble_eq_true rfl, Nat.le_of_ble_eq_true rfl⟩ (P_one (p := 21) hP rfl) (D_one (p := 21) hD rfl) hS (Jn.cell (p := 21) hP hD rfl) (fun u9 H locs hP hD hS hu9 => ?_)
  obtain rfl := hu9
  obtain ⟨σ4, eσ4⟩ : ∃ z : Mem, z = mup (σ3) 21 (fl_row 5 (-1) ((σ3) 21)) := ⟨_, rfl⟩
  have hp := hp σ4 eσ4
  have hP : va_P D vwCl (W5 k ad (σ4)) H := by rw [eσ4]; exact hP
  have hD : va_D A (W5 k ad (σ4)) := by rw [eσ4]; exact hD
  refine lv_aload_n hx hb dX0_findBest_32 rfl (lv_at hl 0 rfl) ?_
  refine va_get (D := D) (ci := 4) (C := RX0) (T := TX0) (N := 7) hx hb hts hin_X0 hown hK hP 18 rfl rfl 0 (by decide) hf_21 (fun _ h9 => h9) rfl dX0_findBest_33 ?_
  refine va_get (D := D) (ci := 6) (C := RX2) (T := TX2) (N := 11) hx hb hts hin_X2 hown hK hP 1 rfl rfl 9 (by decide) hf_49 (fun _ h9 => h9) rfl dX0_findBest_36 ?_
  refine lv_if_le (tgt := 48) hx hb dX0_findBest_39 (by decide) (fun c5 => ?_) (fun c5 => ?_)
  · have hp := hp.1 c5
    exact B_48  (σ4) _ _ _  hP hD hS (lv_sub hl [] rfl) hp
  · have hp := hp.2 c5
    refine lv_aload_n hx hb dX0_findBest_42 rfl (lv_at hl 0 rfl) ?_
    refine lv_iconst (v := 0) hx hb dX0_findBest_43 (by decide) ?_
    refine lv_iconst (v := 0) hx hb dX0_findBest_44 (by decide) ?_
    refine fw_cvS (As := [.ref (ad 18), .int 0, .int 0]) (rest := []) hC (c_X0_chooseFrom l D k ad 6 hp) (va_cwS 3 hts (gA_S A_43 A_44 A_42 A_45) rfl rfl rfl (by decide +kernel) ⟨Nat.le_of_ble_eq_true rfl, Nat.le_of_ble_eq_true rfl⟩) rfl hl.1 rfl (Nat.le_of_ble_eq_true rfl) dX0_findBest_45 ⟨Nat.le_of_ble_eq_true rfl, Nat.le_of_ble_eq_true rfl⟩ hP hD hS Jn.same (fun σ7 H locs hP hD hS hp => ?_)
    have hP : va_P D vwCl (W5 k ad (σ7)) H := hP
    have hD : va_D A (W5 k ad (σ7)) := hD
    exact B_48  (σ7) _ _ _  hP hD hS (lv_sub hl [] rfl) hp
def q_X0_count  (post : Int32 → Mem → Prop) (p2 : Int32) (p3 : Int32) (σ : Mem) : Prop := (∀ σ1 : Mem, σ1 = mup (σ) 19 (va_cpy ((σ) 13) ((σ) 19) ((0 : Int32).toNatClampNeg) ((0 : Int32).toNatClampNeg) ((5 : Int32).toNatClampNeg)) → (vp_in p2 5 ∧ (vp_in p2 5 ∧ (∀ σ4 : Mem, σ4 = mst (σ1) 19 p2.toNatClampNeg (((σ1) 19 p2.toNatClampNeg) &&& ((1 : Int32) <<< (p3 &&& 31))) → (∀ σ5 : Mem, σ5 = mst (σ4) 18 6 0 → (q_X0_countFrom 6 (fun (σ7 : Mem) => post ((σ7) 18 6) (σ7)) 0 (σ5)))))))
abbrev rm_X0_count : Room := { frames := 17, cells := 0, slots := 0, locals := 863 }
abbrev wq_X0_count : List Cond := Cond.code yX0_count cX0_count 4 (some .int) :: wALL
set_option maxHeartbeats 4000000 in
set_option maxRecDepth 100000 in
theorem c_X0_count (l : Launch) (D : va_G) (k ad : Nat → Nat) {sz : Nat} {σ : Mem} {p2 : Int32} {p3 : Int32} {post : Int32 → Mem → Prop} (hp : q_X0_count post p2 p3 σ) : Met l yX0_count wq_X0_count rm_X0_count (va_Pc [.ref (ad 18), .ref (ad 12), .int p2, .int p3] (Pw D k (W5 k ad (σ)) sz)) (va_Qi post (fun u => Bw D (W5 k ad (σ)) sz (W5 k ad u)) (va_A (W5 k ad (σ)) sz)) 0 0 (va_A (W5 k ad (σ)) sz) := by
  refine fw_i (wf := fun u : Mem => W5 k ad u) (by decide) rfl (Nat.le_of_ble_eq_true rfl) ?_
  intro p e s m args below meth c A Q ls hC hP hD hl hret
  obtain ⟨⟨hx, hb, hml, hown, hts⟩, hG, hA⟩ := id hC
  have hK := hG.1
  have hS : va_S A s.heap s.heap [] := va_S.rf
  have hin_X3 : ∀ w ∈ u_ws RX3 TX3 3, w ∈ wq_X0_count := fun w h => List.mem_cons_of_mem _ (iU_X3 w h)
  have hf_35 := hts _ (List.mem_cons_of_mem _ A_46)
  have hin_X0 : ∀ w ∈ u_ws RX0 TX0 7, w ∈ wq_X0_count := fun w h => List.mem_cons_of_mem _ (iU_X0 w h)
  have hf_9 := hts _ (List.mem_cons_of_mem _ A_6)
  have hf_58 := hts _ (List.mem_cons_of_mem _ A_48)
  have hl : lv_has ls 4 [(0, .ref (ad 18)), (1, .ref (ad 12)), (2, .int p2), (3, .int p3)] := hl
  have hown : s.vm.findClass RX0 = some m.cls := hown
  unfold q_X0_count at hp
  refine lv_aload_n hx hb dX0_count_0 rfl (lv_at hl 1 rfl) ?_
  refine va_get (D := D) (ci := 7) (C := RX3) (T := TX3) (N := 3) hx hb hts hin_X3 hown hK hP 12 rfl rfl 1 (by decide) hf_35 (fun _ h9 => h9) rfl dX0_count_1 ?_
  refine lv_iconst (v := 0) hx hb dX0_count_4 (by decide) ?_
  refine lv_aload_n hx hb dX0_count_5 rfl (lv_at hl 0 rfl) ?_
  refine va_get (D := D) (ci := 4) (C := RX0) (T := TX0) (N := 7) hx hb hts hin_X0 hown hK hP 18 rfl rfl 1 (by decide) hf_9 (fun _ h9 => h9) rfl dX0_count_6 ?_
  refine lv_iconst (v := 0) hx hb dX0_count_9 (by decide) ?_
  refine lv_iconst (v := 5) hx hb dX0_count_10 (by decide) ?_
  refine va_copyi hx hb (by rw [hml]; exact hl.1.symm) hown (hts _ (List.mem_cons_of_mem _ A_34)) (hts _ (List.mem_cons_of_mem _ A_35)) (hts _ (List.mem_cons_of_mem _ A_36)) (hts _ (List.mem_cons_of_mem _ A_37)) hK hP hD hS 13 19 0 0 rfl rfl rfl rfl rfl (by decide) (by decide) (by decide) (by decide) (by decide) (fun _ _ => rfl) (Nat.le_of_ble_eq_true rfl) (by decide +kernel) dX0_count_11 (fun H locs hP hD hS => ?_)
  obtain ⟨σ1, eσ1⟩ : ∃ z : Mem, z = mup (σ) 19 (va_cpy ((σ) 13) ((σ) 19) ((0 : Int32).toNatClampNeg) ((0 : Int32).toNatClampNeg) ((5 : Int32).toNatClampNeg)) := ⟨_, rfl⟩
  have hp := hp σ1 eσ1
  have hP : va_P D vwCl (W5 k ad (σ1)) H := by rw [eσ1]; exact hP
  have hD : va_D A (W5 k ad (σ1)) := by rw [eσ1]; exact hD
  refine lv_aload_n hx hb dX0_count_14 rfl (lv_at hl 0 rfl) ?_
  refine va_get (D := D) (ci := 4) (C := RX0) (T := TX0) (N := 7) hx hb hts hin_X0 hown hK hP 18 rfl rfl 1 (by decide) hf_9 (fun _ h9 => h9) rfl dX0_count_15 ?_
  refine lv_iload_n hx hb dX0_count_18 rfl (lv_at hl 2 rfl) ?_
  refine lv_dup2_11 hx hb dX0_count_19 rfl rfl ?_
  obtain ⟨h2, hp⟩ := hp
  refine va_iald hx hb hK hP 19 0 rfl rfl h2 dX0_count_20 ?_
  refine lv_iconst (v := 1) hx hb dX0_count_21 (by decide) ?_
  refine lv_iload_n hx hb dX0_count_22 rfl (lv_at hl 3 rfl) ?_
  refine lv_ishl hx hb dX0_count_23 ?_
  refine lv_iand hx hb dX0_count_24 ?_
  obtain ⟨h3, hp⟩ := hp
  refine va_iast hx hb hK hP hD hS 19 0 rfl rfl h3 dX0_count_25 (fun H locs hP hD hS => ?_)
  obtain ⟨σ4, eσ4⟩ : ∃ z : Mem, z = mst (σ1) 19 p2.toNatClampNeg (((σ1) 19 p2.toNatClampNeg) &&& ((1 : Int32) <<< (p3 &&& 31))) := ⟨_, rfl⟩
  have hp := hp σ4 eσ4
  have hP : va_P D vwCl (W5 k ad (σ4)) H := by rw [eσ4]; exact hP
  have hD : va_D A (W5 k ad (σ4)) := by rw [eσ4]; exact hD
  refine lv_aload_n hx hb dX0_count_26 rfl (lv_at hl 0 rfl) ?_
  refine lv_iconst (v := 0) hx hb dX0_count_27 (by decide) ?_
  refine va_put (D := D) (ci := 4) (v := .int 0) (ty := .int) (C := RX0) (T := TX0) (N := 7) hx hb hts hin_X0 tyX0 tyX0_ok nmX0 hown hK hP hD hS 18 rfl rfl 6 (by decide) hf_58 (fun _ h9 => h9) rfl (by decide +kernel) rfl rfl (Nat.le_of_ble_eq_true rfl) dX0_count_28 (fun H locs hP hD hS => ?_)
  obtain ⟨σ5, eσ5⟩ : ∃ z : Mem, z = mst (σ4) 18 6 0 := ⟨_, rfl⟩
  have hp := hp σ5 eσ5
  have hP : va_P D vwCl (W5 k ad (σ5)) H := by rw [eσ5]; exact hP
  have hD : va_D A (W5 k ad (σ5)) := by rw [eσ5]; exact hD
  refine lv_aload_n hx hb dX0_count_31 rfl (lv_at hl 0 rfl) ?_
  refine lv_iconst (v := 0) hx hb dX0_count_32 (by decide) ?_
  refine fw_cvS (As := [.ref (ad 18), .int 0]) (rest := []) hC (c_X0_countFrom l D k ad 6 hp) (va_cwS 2 hts (gA_S A_49 A_50 A_42 A_51) rfl rfl rfl (by decide +kernel) ⟨Nat.le_of_ble_eq_true rfl, Nat.le_of_ble_eq_true rfl⟩) rfl hl.1 rfl (Nat.le_of_ble_eq_true rfl) dX0_count_33 ⟨Nat.le_of_ble_eq_true rfl, Nat.le_of_ble_eq_true rfl⟩ hP hD hS Jn.same (fun σ7 H locs hP hD hS hp => ?_)
  have hP : va_P D vwCl (W5 k ad (σ7)) H := hP
  have hD : va_D A (W5 k ad (σ7)) := hD
  refine lv_aload_n hx hb dX0_count_36 rfl (lv_at hl 0 rfl) ?_
  refine va_get (D := D) (ci := 4) (C := RX0) (T := TX0) (N := 7) hx hb hts hin_X0 hown hK hP 18 rfl rfl 6 (by decide) hf_58 (fun _ h9 => h9) rfl dX0_count_37 ?_
  exact hret ((σ7) 18 6) (σ7) _ _ _ _ _ _ dX0_count_40 rfl hP hD hS (Nat.le_of_ble_eq_true rfl) (Nat.le_of_ble_eq_true rfl) hp
