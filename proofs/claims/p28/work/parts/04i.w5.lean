def q_X5_withdraw  (post : Int32 → Mem → Prop) (px : String → Mem → Prop) (p1 : Int32) (p2 : Int32) (σ : Mem) : Prop := (q_X5_isLine (fun (r1 : Int32) (σ2 : Mem) => ((r1 ≠ 0 → (vp_in p1 30 ∧ (∀ σ5 : Mem, σ5 = mst (σ2) 10 p1.toNatClampNeg (vp_nar .boolean p2) → (q_X4_renew (fun (σ7 : Mem) => (q_X2_counts (fun (r8 : Int32) (σ9 : Mem) => (bz r8 ∧ post r8 (σ9))) p1 (σ7))) (σ5))))) ∧ (r1 = 0 → (px "java/lang/IndexOutOfBoundsException" (σ2))))) p1 (σ))
abbrev rm_X5_withdraw : Room := { frames := 19, cells := 1, slots := 6, locals := 907 }
abbrev wq_X5_withdraw : List Cond := Cond.code yX5_withdraw cX5_withdraw 3 (some .boolean) :: wALL
set_option maxHeartbeats 4000000 in
set_option maxRecDepth 100000 in
theorem c_X5_withdraw (l : Launch) (hflag : l.stackTraces = false) (D : va_G) (k ad : Nat → Nat) {sz : Nat} {σ : Mem} {p1 : Int32} {p2 : Int32} {post : Int32 → Mem → Prop} {px : String → Mem → Prop} (hp : q_X5_withdraw post px p1 p2 σ) : vx_Met l yX5_withdraw wq_X5_withdraw rm_X5_withdraw (va_Pc [.ref (ad 0), .int p1, .int p2] (Pw D k (W5 k ad (σ)) sz)) (va_Qi post (fun u => Bw D (W5 k ad (σ)) sz (W5 k ad u)) (va_A (W5 k ad (σ)) sz)) (vx_X (fun z : String × Mem => px z.1 z.2) (fun E z t => E = z.1 ∧ Bw D (W5 k ad (σ)) sz (W5 k ad z.2) t) (va_A (W5 k ad (σ)) sz)) 1 6 (va_A (W5 k ad (σ)) sz) := by
  refine fw_xi hflag (wf := fun u : Mem => W5 k ad u) (by decide) rfl (Nat.le_of_ble_eq_true rfl) ?_
  intro p e s m args below meth c A Q ls hC hP hD hl hret hthr
  obtain ⟨⟨hx, hb, hml, hown, hts⟩, hG, hA⟩ := id hC
  have hK := hG.1
  have hS : va_S A s.heap s.heap [] := va_S.rf
  have hin_X5 : ∀ w ∈ u_ws RX5 TX5 4, w ∈ wq_X5_withdraw := fun w h => List.mem_cons_of_mem _ (iU_X5 w h)
  have hf_10 := hts _ (List.mem_cons_of_mem _ A_183)
  have hin_X2 : ∀ w ∈ u_ws RX2 TX2 11, w ∈ wq_X5_withdraw := fun w h => List.mem_cons_of_mem _ (iU_X2 w h)
  have hf_104 := hts _ (List.mem_cons_of_mem _ A_241)
  have hf_21 := hts _ (List.mem_cons_of_mem _ A_186)
  have hl : lv_has ls 3 [(0, .ref (ad 0)), (1, .int p1), (2, .int p2)] := hl
  have hown : s.vm.findClass RX5 = some m.cls := hown
  unfold q_X5_withdraw at hp
  refine lv_aload_n hx hb dX5_withdraw_0 rfl (lv_at hl 0 rfl) ?_
  refine lv_iload_n hx hb dX5_withdraw_1 rfl (lv_at hl 1 rfl) ?_
  refine fw_ciV (As := [.int p1]) (rest := []) hC (c_X5_isLine l D k ad hp) (cwV 1 hts (gA_V A_236 A_237 A_238 A_25 A_234) rfl rfl rfl (by decide +kernel) ⟨Nat.le_of_ble_eq_true rfl, Nat.le_of_ble_eq_true rfl⟩) (va_recv hK hP (ci := 9) (q0 := 0) rfl rfl) rfl hl.1 rfl (Nat.le_of_ble_eq_true rfl) dX5_withdraw_2 ⟨Nat.le_of_ble_eq_true rfl, Nat.le_of_ble_eq_true rfl⟩ hP hD hS Jn.same (fun r1 σ2 H locs hP hD hS hp => ?_)
  have hP : va_P D vwCl (W5 k ad (σ2)) H := hP
  have hD : va_D A (W5 k ad (σ2)) := hD
  refine lv_if_ne (tgt := 18) hx hb dX5_withdraw_5 (by decide) (fun c3 => ?_) (fun c3 => ?_)
  · have hp := hp.1 c3
    refine lv_aload_n hx hb dX5_withdraw_18 rfl (lv_at hl 0 rfl) ?_
    refine va_get (D := D) (ci := 9) (C := RX5) (T := TX5) (N := 4) hx hb hts hin_X5 hown hK hP 0 rfl rfl 0 (by decide) hf_10 (fun _ h9 => h9) rfl dX5_withdraw_19 ?_
    refine va_get (D := D) (ci := 6) (C := RX2) (T := TX2) (N := 11) hx hb hts hin_X2 hown hK hP 1 rfl rfl 8 (by decide) hf_104 (fun _ h9 => h9) rfl dX5_withdraw_22 ?_
    refine lv_iload_n hx hb dX5_withdraw_25 rfl (lv_at hl 1 rfl) ?_
    refine lv_iload_n hx hb dX5_withdraw_26 rfl (lv_at hl 2 rfl) ?_
    obtain ⟨h4, hp⟩ := hp
    refine va_zast hx hb hK hP hD hS 10 1 rfl rfl h4 dX5_withdraw_27 (fun H locs hP hD hS => ?_)
    obtain ⟨σ5, eσ5⟩ : ∃ z : Mem, z = mst (σ2) 10 p1.toNatClampNeg (vp_nar .boolean p2) := ⟨_, rfl⟩
    have hp := hp σ5 eσ5
    have hP : va_P D vwCl (W5 k ad (σ5)) H := by rw [eσ5]; exact hP
    have hD : va_D A (W5 k ad (σ5)) := by rw [eσ5]; exact hD
    refine lv_aload_n hx hb dX5_withdraw_28 rfl (lv_at hl 0 rfl) ?_
    refine va_get (D := D) (ci := 9) (C := RX5) (T := TX5) (N := 4) hx hb hts hin_X5 hown hK hP 0 rfl rfl 1 (by decide) hf_21 (fun _ h9 => h9) rfl dX5_withdraw_29 ?_
    refine fw_cvV (As := []) (rest := []) hC (c_X4_renew l D k ad hp) (cwV 0 hts (gA_V A_208 A_209 A_210 A_173 A_176) rfl rfl rfl (by decide +kernel) ⟨Nat.le_of_ble_eq_true rfl, Nat.le_of_ble_eq_true rfl⟩) (va_recv hK hP (ci := 8) (q0 := 11) rfl rfl) rfl hl.1 rfl (Nat.le_of_ble_eq_true rfl) dX5_withdraw_32 ⟨Nat.le_of_ble_eq_true rfl, Nat.le_of_ble_eq_true rfl⟩ hP hD hS Jn.same (fun σ7 H locs hP hD hS hp => ?_)
    have hP : va_P D vwCl (W5 k ad (σ7)) H := hP
    have hD : va_D A (W5 k ad (σ7)) := hD
    refine lv_aload_n hx hb dX5_withdraw_35 rfl (lv_at hl 0 rfl) ?_
    refine va_get (D := D) (ci := 9) (C := RX5) (T := TX5) (N := 4) hx hb hts hin_X5 hown hK hP 0 rfl rfl 0 (by decide) hf_10 (fun _ h9 => h9) rfl dX5_withdraw_36 ?_
    refine lv_iload_n hx hb dX5_withdraw_39 rfl (lv_at hl 1 rfl) ?_
    refine fw_ciV (As := [.int p1]) (rest := []) hC (c_X2_counts l D k ad hp) (cwV 1 hts (gA_V A_239 A_92 A_93 A_29 A_89) rfl rfl rfl (by decide +kernel) ⟨Nat.le_of_ble_eq_true rfl, Nat.le_of_ble_eq_true rfl⟩) (va_recv hK hP (ci := 6) (q0 := 1) rfl rfl) rfl hl.1 rfl (Nat.le_of_ble_eq_true rfl) dX5_withdraw_40 ⟨Nat.le_of_ble_eq_true rfl, Nat.le_of_ble_eq_true rfl⟩ hP hD hS Jn.same (fun r8 σ9 H locs hP hD hS hp => ?_)
    have hP : va_P D vwCl (W5 k ad (σ9)) H := hP
    have hD : va_D A (W5 k ad (σ9)) := hD
    exact hret r8 (σ9) _ _ _ _ _ _ dX5_withdraw_43 hp.1.1 hP hD hS (Nat.le_of_ble_eq_true rfl) (Nat.le_of_ble_eq_true rfl) hp.2
  · have hp := hp.2 c3
    exact hthr "java/lang/IndexOutOfBoundsException" "no such line" ["java/lang/RuntimeException", "java/lang/Exception"] 65 95 69 (k (1000 + 95)) (σ2) _ _ _ _ _ _ _ (by decide +kernel) (by decide +kernel) (hts _ (List.mem_cons_of_mem _ A_217)) (hts _ (List.mem_cons_of_mem _ A_218)) (GG.sx hG 22 rfl) (hat_69 (fun w h => hts w (List.mem_cons_of_mem _ h)) (GG.nc hG (q := ("java/lang/IndexOutOfBoundsException", "java/lang/IndexOutOfBoundsException")) 6 rfl) (GG.nd hG)) vO_69 hl.1 dX5_withdraw_8 dX5_withdraw_11 dX5_withdraw_12 dX5_withdraw_14 dX5_withdraw_17 (Nat.le_of_ble_eq_true rfl) (Nat.le_of_ble_eq_true rfl) (Nat.le_of_ble_eq_true rfl) (Nat.le_of_ble_eq_true rfl) hP hD hS (Nat.le_of_ble_eq_true rfl) (Nat.le_of_ble_eq_true rfl) hp
def q_X5_weight_28  (post : Int32 → Mem → Prop) (px : String → Mem → Prop)  (σ : Mem) : Prop := (px "java/lang/IllegalArgumentException" (σ))
def q_X5_weight  (post : Int32 → Mem → Prop) (px : String → Mem → Prop) (p1 : Int32) (p2 : Int32) (σ : Mem) : Prop := (q_X5_isField (fun (r1 : Int32) (σ2 : Mem) => ((r1 ≠ 0 → ((p2 < 0 → (q_X5_weight_28 post px) (σ2)) ∧ (¬ (p2 < 0) → ((p2 ≤ 9 → (vp_in p1 5 ∧ (∀ v7 : Int32, v7 = ((σ2) 3 p1.toNatClampNeg) → (vp_in p1 5 ∧ (∀ σ9 : Mem, σ9 = mst (σ2) 3 p1.toNatClampNeg p2 → (q_X4_renew (fun (σ11 : Mem) => post v7 (σ11)) (σ9))))))) ∧ (¬ (p2 ≤ 9) → (q_X5_weight_28 post px) (σ2)))))) ∧ (r1 = 0 → (px "java/lang/IndexOutOfBoundsException" (σ2))))) p1 (σ))
abbrev rm_X5_weight : Room := { frames := 19, cells := 1, slots := 6, locals := 907 }
abbrev wq_X5_weight : List Cond := Cond.code yX5_weight cX5_weight 4 (some .int) :: wALL
set_option maxHeartbeats 4000000 in
set_option maxRecDepth 100000 in
theorem c_X5_weight (l : Launch) (hflag : l.stackTraces = false) (D : va_G) (k ad : Nat → Nat) {sz : Nat} {σ : Mem} {p1 : Int32} {p2 : Int32} {post : Int32 → Mem → Prop} {px : String → Mem → Prop} (hp : q_X5_weight post px p1 p2 σ) : vx_Met l yX5_weight wq_X5_weight rm_X5_weight (va_Pc [.ref (ad 0), .int p1, .int p2] (Pw D k (W5 k ad (σ)) sz)) (va_Qi post (fun u => Bw D (W5 k ad (σ)) sz (W5 k ad u)) (va_A (W5 k ad (σ)) sz)) (vx_X (fun z : String × Mem => px z.1 z.2) (fun E z t => E = z.1 ∧ Bw D (W5 k ad (σ)) sz (W5 k ad z.2) t) (va_A (W5 k ad (σ)) sz)) 1 6 (va_A (W5 k ad (σ)) sz) := by
  refine fw_xi hflag (wf := fun u : Mem => W5 k ad u) (by decide) rfl (Nat.le_of_ble_eq_true rfl) ?_
  intro p e s m args below meth c A Q ls hC hP hD hl hret hthr
  obtain ⟨⟨hx, hb, hml, hown, hts⟩, hG, hA⟩ := id hC
  have hK := hG.1
  have hS : va_S A s.heap s.heap [] := va_S.rf
  have hin_X5 : ∀ w ∈ u_ws RX5 TX5 4, w ∈ wq_X5_weight := fun w h => List.mem_cons_of_mem _ (iU_X5 w h)
  have hf_10 := hts _ (List.mem_cons_of_mem _ A_183)
  have hin_X2 : ∀ w ∈ u_ws RX2 TX2 11, w ∈ wq_X5_weight := fun w h => List.mem_cons_of_mem _ (iU_X2 w h)
  have hf_109 := hts _ (List.mem_cons_of_mem _ A_243)
  have hf_21 := hts _ (List.mem_cons_of_mem _ A_186)
  have hl : lv_has ls 4 [(0, .ref (ad 0)), (1, .int p1), (2, .int p2)] := hl
  have hown : s.vm.findClass RX5 = some m.cls := hown
  unfold q_X5_weight at hp
  have B_28 : ∀  (σ : Mem) (H : Heap) (locs : List Loc) (ls : Array Slot), va_P D vwCl (W5 k ad (σ)) H → va_D A (W5 k ad (σ)) → va_S A s.heap H locs → lv_has ls 4 [] → (q_X5_weight_28 post px)  σ → W p l e rm_X5_weight s m args below meth c H locs 0 0 Q (F0 m 28 ls []) := by
    intro  σ H locs ls hP hD hS hl hp
    unfold q_X5_weight_28 at hp
    exact hthr "java/lang/IllegalArgumentException" "weight is not 0 to 9" ["java/lang/RuntimeException", "java/lang/Exception"] 40 107 44 (k (1000 + 107)) (σ) _ _ _ _ _ _ _ (by decide +kernel) (by decide +kernel) (hts _ (List.mem_cons_of_mem _ A_198)) (hts _ (List.mem_cons_of_mem _ A_199)) (GG.sx hG 0 rfl) (hat_44 (fun w h => hts w (List.mem_cons_of_mem _ h)) (GG.nc hG (q := ("java/lang/IllegalArgumentException", "java/lang/IllegalArgumentException")) 4 rfl) (GG.nd hG)) vO_44 hl.1 dX5_weight_28 dX5_weight_31 dX5_weight_32 dX5_weight_34 dX5_weight_37 (Nat.le_of_ble_eq_true rfl) (Nat.le_of_ble_eq_true rfl) (Nat.le_of_ble_eq_true rfl) (Nat.le_of_ble_eq_true rfl) hP hD hS (Nat.le_of_ble_eq_true rfl) (Nat.le_of_ble_eq_true rfl) hp
  refine lv_aload_n hx hb dX5_weight_0 rfl (lv_at hl 0 rfl) ?_
  refine lv_iload_n hx hb dX5_weight_1 rfl (lv_at hl 1 rfl) ?_
  refine fw_ciV (As := [.int p1]) (rest := []) hC (c_X5_isField l D k ad hp) (cwV 1 hts (gA_V A_220 A_221 A_222 A_25 A_212) rfl rfl rfl (by decide +kernel) ⟨Nat.le_of_ble_eq_true rfl, Nat.le_of_ble_eq_true rfl⟩) (va_recv hK hP (ci := 9) (q0 := 0) rfl rfl) rfl hl.1 rfl (Nat.le_of_ble_eq_true rfl) dX5_weight_2 ⟨Nat.le_of_ble_eq_true rfl, Nat.le_of_ble_eq_true rfl⟩ hP hD hS Jn.same (fun r1 σ2 H locs hP hD hS hp => ?_)
  have hP : va_P D vwCl (W5 k ad (σ2)) H := hP
  have hD : va_D A (W5 k ad (σ2)) := hD
  refine lv_if_ne (tgt := 18) hx hb dX5_weight_5 (by decide) (fun c3 => ?_) (fun c3 => ?_)
  · have hp := hp.1 c3
    refine lv_iload_n hx hb dX5_weight_18 rfl (lv_at hl 2 rfl) ?_
    refine lv_if_lt (tgt := 28) hx hb dX5_weight_19 (by decide) (fun c4 => ?_) (fun c4 => ?_)
    · have hp := hp.1 c4
      exact B_28  (σ2) _ _ _  hP hD hS (lv_sub hl [] rfl) hp
    · have hp := hp.2 c4
      refine lv_iload_n hx hb dX5_weight_22 rfl (lv_at hl 2 rfl) ?_
      refine lv_bipush (v := 9) hx hb dX5_weight_23 (by decide) ?_
      refine lv_icmp_le (tgt := 38) hx hb dX5_weight_25 (by decide) (fun c5 => ?_) (fun c5 => ?_)
      · have hp := hp.1 c5
        refine lv_aload_n hx hb dX5_weight_38 rfl (lv_at hl 0 rfl) ?_
        refine va_get (D := D) (ci := 9) (C := RX5) (T := TX5) (N := 4) hx hb hts hin_X5 hown hK hP 0 rfl rfl 0 (by decide) hf_10 (fun _ h9 => h9) rfl dX5_weight_39 ?_
        refine va_get (D := D) (ci := 6) (C := RX2) (T := TX2) (N := 11) hx hb hts hin_X2 hown hK hP 1 rfl rfl 1 (by decide) hf_109 (fun _ h9 => h9) rfl dX5_weight_42 ?_
        refine lv_iload_n hx hb dX5_weight_45 rfl (lv_at hl 1 rfl) ?_
        obtain ⟨h6, hp⟩ := hp
        refine va_iald hx hb hK hP 3 0 rfl rfl h6 dX5_weight_46 ?_
        refine lv_topi (fun v7 ev7 => ?_)
        have hp := hp v7 ev7
        refine lv_istore_n (lv' := [(3, .int v7), (0, .ref (ad 0)), (1, .int p1), (2, .int p2)]) hx hb dX5_weight_47 rfl hl (by decide) rfl (fun ls hl => ?_)
        refine lv_aload_n hx hb dX5_weight_48 rfl (lv_at hl 1 rfl) ?_
        refine va_get (D := D) (ci := 9) (C := RX5) (T := TX5) (N := 4) hx hb hts hin_X5 hown hK hP 0 rfl rfl 0 (by decide) hf_10 (fun _ h9 => h9) rfl dX5_weight_49 ?_
        refine va_get (D := D) (ci := 6) (C := RX2) (T := TX2) (N := 11) hx hb hts hin_X2 hown hK hP 1 rfl rfl 1 (by decide) hf_109 (fun _ h9 => h9) rfl dX5_weight_52 ?_
        refine lv_iload_n hx hb dX5_weight_55 rfl (lv_at hl 2 rfl) ?_
        refine lv_iload_n hx hb dX5_weight_56 rfl (lv_at hl 3 rfl) ?_
        obtain ⟨h8, hp⟩ := hp
        refine va_iast hx hb hK hP hD hS 3 0 rfl rfl h8 dX5_weight_57 (fun H locs hP hD hS => ?_)
        obtain ⟨σ9, eσ9⟩ : ∃ z : Mem, z = mst (σ2) 3 p1.toNatClampNeg p2 := ⟨_, rfl⟩
        have hp := hp σ9 eσ9
        have hP : va_P D vwCl (W5 k ad (σ9)) H := by rw [eσ9]; exact hP
        have hD : va_D A (W5 k ad (σ9)) := by rw [eσ9]; exact hD
        refine lv_aload_n hx hb dX5_weight_58 rfl (lv_at hl 1 rfl) ?_
        refine va_get (D := D) (ci := 9) (C := RX5) (T := TX5) (N := 4) hx hb hts hin_X5 hown hK hP 0 rfl rfl 1 (by decide) hf_21 (fun _ h9 => h9) rfl dX5_weight_59 ?_
        refine fw_cvV (As := []) (rest := []) hC (c_X4_renew l D k ad hp) (cwV 0 hts (gA_V A_208 A_209 A_210 A_173 A_176) rfl rfl rfl (by decide +kernel) ⟨Nat.le_of_ble_eq_true rfl, Nat.le_of_ble_eq_true rfl⟩) (va_recv hK hP (ci := 8) (q0 := 11) rfl rfl) rfl hl.1 rfl (Nat.le_of_ble_eq_true rfl) dX5_weight_62 ⟨Nat.le_of_ble_eq_true rfl, Nat.le_of_ble_eq_true rfl⟩ hP hD hS Jn.same (fun σ11 H locs hP hD hS hp => ?_)
        have hP : va_P D vwCl (W5 k ad (σ11)) H := hP
        have hD : va_D A (W5 k ad (σ11)) := hD
        refine lv_iload_n hx hb dX5_weight_65 rfl (lv_at hl 0 rfl) ?_
        exact hret v7 (σ11) _ _ _ _ _ _ dX5_weight_66 rfl hP hD hS (Nat.le_of_ble_eq_true rfl) (Nat.le_of_ble_eq_true rfl) hp
      · have hp := hp.2 c5
        exact B_28  (σ2) _ _ _  hP hD hS (lv_sub hl [] rfl) hp
  · have hp := hp.2 c3
    exact hthr "java/lang/IndexOutOfBoundsException" "no such field" ["java/lang/RuntimeException", "java/lang/Exception"] 65 67 69 (k (1000 + 67)) (σ2) _ _ _ _ _ _ _ (by decide +kernel) (by decide +kernel) (hts _ (List.mem_cons_of_mem _ A_217)) (hts _ (List.mem_cons_of_mem _ A_218)) (GG.sx hG 15 rfl) (hat_69 (fun w h => hts w (List.mem_cons_of_mem _ h)) (GG.nc hG (q := ("java/lang/IndexOutOfBoundsException", "java/lang/IndexOutOfBoundsException")) 6 rfl) (GG.nd hG)) vO_69 hl.1 dX5_weight_8 dX5_weight_11 dX5_weight_12 dX5_weight_14 dX5_weight_17 (Nat.le_of_ble_eq_true rfl) (Nat.le_of_ble_eq_true rfl) (Nat.le_of_ble_eq_true rfl) (Nat.le_of_ble_eq_true rfl) hP hD hS (Nat.le_of_ble_eq_true rfl) (Nat.le_of_ble_eq_true rfl) hp
def q_X5_commit_25  (post : Int32 → Mem → Prop) (px : String → Mem → Prop)  (σ : Mem) : Prop := (px "java/lang/IllegalStateException" (σ))
def q_X5_commit  (post : Int32 → Mem → Prop) (px : String → Mem → Prop) (σ : Mem) : Prop := ((((σ) 12 2) ≠ 0 → (q_X5_commit_25 post px) (σ)) ∧ (((σ) 12 2) = 0 → ((((σ) 23 3) < 12 → (q_X1_keep (fun (r3 : Int32) (σ4 : Mem) => post r3 (σ4)) (σ))) ∧ (¬ (((σ) 23 3) < 12) → (q_X5_commit_25 post px) (σ)))))
abbrev rm_X5_commit : Room := { frames := 6, cells := 1, slots := 6, locals := 200 }
abbrev wq_X5_commit : List Cond := Cond.code yX5_commit cX5_commit 1 (some .int) :: wALL
set_option maxHeartbeats 4000000 in
set_option maxRecDepth 100000 in
theorem c_X5_commit (l : Launch) (hflag : l.stackTraces = false) (D : va_G) (k ad : Nat → Nat) {sz : Nat} {σ : Mem} {post : Int32 → Mem → Prop} {px : String → Mem → Prop} (hp : q_X5_commit post px σ) : vx_Met l yX5_commit wq_X5_commit rm_X5_commit (va_Pc [.ref (ad 0)] (Pw D k (W5 k ad (σ)) sz)) (va_Qi post (fun u => Bw D (W5 k ad (σ)) sz (W5 k ad u)) (va_A (W5 k ad (σ)) sz)) (vx_X (fun z : String × Mem => px z.1 z.2) (fun E z t => E = z.1 ∧ Bw D (W5 k ad (σ)) sz (W5 k ad z.2) t) (va_A (W5 k ad (σ)) sz)) 1 6 (va_A (W5 k ad (σ)) sz) := by
  refine fw_xi hflag (wf := fun u : Mem => W5 k ad u) (by decide) rfl (Nat.le_of_ble_eq_true rfl) ?_
  intro p e s m args below meth c A Q ls hC hP hD hl hret hthr
  obtain ⟨⟨hx, hb, hml, hown, hts⟩, hG, hA⟩ := id hC
  have hK := hG.1
  have hS : va_S A s.heap s.heap [] := va_S.rf
  have hin_X5 : ∀ w ∈ u_ws RX5 TX5 4, w ∈ wq_X5_commit := fun w h => List.mem_cons_of_mem _ (iU_X5 w h)
  have hf_21 := hts _ (List.mem_cons_of_mem _ A_186)
  have hin_X4 : ∀ w ∈ u_ws RX4 TX4 7, w ∈ wq_X5_commit := fun w h => List.mem_cons_of_mem _ (iU_X4 w h)
  have hf_113 := hts _ (List.mem_cons_of_mem _ A_246)
  have hin_X3 : ∀ w ∈ u_ws RX3 TX3 3, w ∈ wq_X5_commit := fun w h => List.mem_cons_of_mem _ (iU_X3 w h)
  have hf_117 := hts _ (List.mem_cons_of_mem _ A_247)
  have hf_28 := hts _ (List.mem_cons_of_mem _ A_189)
  have hin_X1 : ∀ w ∈ u_ws RX1 TX1 4, w ∈ wq_X5_commit := fun w h => List.mem_cons_of_mem _ (iU_X1 w h)
  have hf_123 := hts _ (List.mem_cons_of_mem _ A_248)
  have hf_128 := hts _ (List.mem_cons_of_mem _ A_249)
  have hl : lv_has ls 1 [(0, .ref (ad 0))] := hl
  have hown : s.vm.findClass RX5 = some m.cls := hown
  unfold q_X5_commit at hp
  have B_25 : ∀  (σ : Mem) (H : Heap) (locs : List Loc) (ls : Array Slot), va_P D vwCl (W5 k ad (σ)) H → va_D A (W5 k ad (σ)) → va_S A s.heap H locs → lv_has ls 1 [] → (q_X5_commit_25 post px)  σ → W p l e rm_X5_commit s m args below meth c H locs 0 0 Q (F0 m 25 ls []) := by
    intro  σ H locs ls hP hD hS hl hp
    unfold q_X5_commit_25 at hp
    exact hthr "java/lang/IllegalStateException" "there is a contradiction, or there are 12 commits" ["java/lang/RuntimeException", "java/lang/Exception"] 50 126 54 (k (1000 + 126)) (σ) _ _ _ _ _ _ _ (by decide +kernel) (by decide +kernel) (hts _ (List.mem_cons_of_mem _ A_200)) (hts _ (List.mem_cons_of_mem _ A_201)) (GG.sx hG 1 rfl) (hat_54 (fun w h => hts w (List.mem_cons_of_mem _ h)) (GG.nc hG (q := ("java/lang/IllegalStateException", "java/lang/IllegalStateException")) 5 rfl) (GG.nd hG)) vO_54 hl.1 dX5_commit_25 dX5_commit_28 dX5_commit_29 dX5_commit_31 dX5_commit_34 (Nat.le_of_ble_eq_true rfl) (Nat.le_of_ble_eq_true rfl) (Nat.le_of_ble_eq_true rfl) (Nat.le_of_ble_eq_true rfl) hP hD hS (Nat.le_of_ble_eq_true rfl) (Nat.le_of_ble_eq_true rfl) hp
  refine lv_aload_n hx hb dX5_commit_0 rfl (lv_at hl 0 rfl) ?_
  refine va_get (D := D) (ci := 9) (C := RX5) (T := TX5) (N := 4) hx hb hts hin_X5 hown hK hP 0 rfl rfl 1 (by decide) hf_21 (fun _ h9 => h9) rfl dX5_commit_1 ?_
  refine va_get (D := D) (ci := 8) (C := RX4) (T := TX4) (N := 7) hx hb hts hin_X4 hown hK hP 11 rfl rfl 1 (by decide) hf_113 (fun _ h9 => h9) rfl dX5_commit_4 ?_
  refine va_get (D := D) (ci := 7) (C := RX3) (T := TX3) (N := 3) hx hb hts hin_X3 hown hK hP 12 rfl rfl 2 (by decide) hf_117 (fun _ h9 => h9) rfl dX5_commit_7 ?_
  refine lv_if_ne (tgt := 25) hx hb dX5_commit_10 (by decide) (fun c1 => ?_) (fun c1 => ?_)
  · have hp := hp.1 c1
    exact B_25  (σ) _ _ _  hP hD hS (lv_sub hl [] rfl) hp
  · have hp := hp.2 c1
    refine lv_aload_n hx hb dX5_commit_13 rfl (lv_at hl 0 rfl) ?_
    refine va_get (D := D) (ci := 9) (C := RX5) (T := TX5) (N := 4) hx hb hts hin_X5 hown hK hP 0 rfl rfl 2 (by decide) hf_28 (fun _ h9 => h9) rfl dX5_commit_14 ?_
    refine va_get (D := D) (ci := 5) (C := RX1) (T := TX1) (N := 4) hx hb hts hin_X1 hown hK hP 23 rfl rfl 3 (by decide) hf_123 (fun _ h9 => h9) rfl dX5_commit_17 ?_
    refine lv_bipush (v := 12) hx hb dX5_commit_20 (by decide) ?_
    refine lv_icmp_lt (tgt := 35) hx hb dX5_commit_22 (by decide) (fun c2 => ?_) (fun c2 => ?_)
    · have hp := hp.1 c2
      refine lv_aload_n hx hb dX5_commit_35 rfl (lv_at hl 0 rfl) ?_
      refine va_get (D := D) (ci := 9) (C := RX5) (T := TX5) (N := 4) hx hb hts hin_X5 hown hK hP 0 rfl rfl 2 (by decide) hf_28 (fun _ h9 => h9) rfl dX5_commit_36 ?_
      refine lv_aload_n hx hb dX5_commit_39 rfl (lv_at hl 0 rfl) ?_
      refine va_get (D := D) (ci := 9) (C := RX5) (T := TX5) (N := 4) hx hb hts hin_X5 hown hK hP 0 rfl rfl 1 (by decide) hf_21 (fun _ h9 => h9) rfl dX5_commit_40 ?_
      refine va_get (D := D) (ci := 8) (C := RX4) (T := TX4) (N := 7) hx hb hts hin_X4 hown hK hP 11 rfl rfl 5 (by decide) hf_128 (fun _ h9 => h9) rfl dX5_commit_43 ?_
      refine fw_ciV (As := [.ref (ad 22)]) (rest := []) hC (c_X1_keep l D k ad hp) (cwV 1 hts (gA_V A_250 A_251 A_252 A_68 A_60) rfl rfl rfl (by decide +kernel) ⟨Nat.le_of_ble_eq_true rfl, Nat.le_of_ble_eq_true rfl⟩) (va_recv hK hP (ci := 5) (q0 := 23) rfl rfl) rfl hl.1 rfl (Nat.le_of_ble_eq_true rfl) dX5_commit_46 ⟨Nat.le_of_ble_eq_true rfl, Nat.le_of_ble_eq_true rfl⟩ hP hD hS Jn.same (fun r3 σ4 H locs hP hD hS hp => ?_)
      have hP : va_P D vwCl (W5 k ad (σ4)) H := hP
      have hD : va_D A (W5 k ad (σ4)) := hD
      exact hret r3 (σ4) _ _ _ _ _ _ dX5_commit_49 rfl hP hD hS (Nat.le_of_ble_eq_true rfl) (Nat.le_of_ble_eq_true rfl) hp
    · have hp := hp.2 c2
      exact B_25  (σ) _ _ _  hP hD hS (lv_sub hl [] rfl) hp
def q_X5_wave_81  (post : Int32 → Mem → Prop) (px : String → Mem → Prop)  (x3 : Int32) (σ : Mem) : Prop := post x3 (σ)
def q_X5_wave_75  (post : Int32 → Mem → Prop) (px : String → Mem → Prop) (kE_81 : Int32 → Mem → Prop) (kc_43 : Int32 → Int32 → Int32 → Int32 → Mem → Prop) (x1 : Int32) (x2 : Int32) (x3 : Int32) (x4 : Int32) (σ : Mem) : Prop := (∀ v3001 : Int32, v3001 = x4 + 1 → kc_43 x1 x2 x3 v3001 (σ))
def q_X5_wave_43  (post : Int32 → Mem → Prop) (px : String → Mem → Prop) (kE_81 : Int32 → Mem → Prop) (kc_43 : Int32 → Int32 → Int32 → Int32 → Mem → Prop) (x1 : Int32) (x2 : Int32) (x3 : Int32) (x4 : Int32) (σ : Mem) : Prop := ((6 ≤ x4 → kE_81 x3 (σ)) ∧ (¬ (6 ≤ x4) → (q_X5_contains (fun (r2002 : Int32) (σ2003 : Mem) => ((r2002 = 0 → (q_X5_wave_75 post px kE_81 kc_43) x1 x2 x3 x4 (σ)) ∧ (¬ (r2002 = 0) → (q_X1_bring (fun (r2005 : Int32) (σ2006 : Mem) => ((r2005 = 0 → (q_X5_wave_75 post px kE_81 kc_43) x1 x2 x3 x4 (σ2006)) ∧ (¬ (r2005 = 0) → (∀ v2008 : Int32, v2008 = x3 + 1 → (q_X5_wave_75 post px kE_81 kc_43) x1 x2 v2008 x4 (σ2006))))) x4 x1 (σ))))) x2 x4 (σ))))
def q_X5_wave_28  (post : Int32 → Mem → Prop) (px : String → Mem → Prop)  (σ : Mem) : Prop := (px "java/lang/IllegalArgumentException" (σ))
def q_X5_wave  (post : Int32 → Mem → Prop) (px : String → Mem → Prop) (p1 : Int32) (p2 : Int32) (σ : Mem) : Prop := (q_X5_isCommit (fun (r1 : Int32) (σ2 : Mem) => ((r1 ≠ 0 → ((p2 < 0 → (q_X5_wave_28 post px) (σ2)) ∧ (¬ (p2 < 0) → ((p2 ≤ 63 → (∃ n9 : Nat, lp_5 (q_X5_wave_43 post px (q_X5_wave_81 post px)) n9 p1 p2 0 0 (σ2))) ∧ (¬ (p2 ≤ 63) → (q_X5_wave_28 post px) (σ2)))))) ∧ (r1 = 0 → (px "java/lang/IndexOutOfBoundsException" (σ2))))) p1 (σ))
abbrev rm_X5_wave : Room := { frames := 6, cells := 1, slots := 6, locals := 200 }
abbrev wq_X5_wave : List Cond := Cond.code yX5_wave cX5_wave 5 (some .int) :: wALL
set_option maxHeartbeats 4000000 in
set_option maxRecDepth 100000 in
theorem c_X5_wave (l : Launch) (hflag : l.stackTraces = false) (D : va_G) (k ad : Nat → Nat) {sz : Nat} {σ : Mem} {p1 : Int32} {p2 : Int32} {post : Int32 → Mem → Prop} {px : String → Mem → Prop} (hp : q_X5_wave post px p1 p2 σ) : vx_Met l yX5_wave wq_X5_wave rm_X5_wave (va_Pc [.ref (ad 0), .int p1, .int p2] (Pw D k (W5 k ad (σ)) sz)) (va_Qi post (fun u => Bw D (W5 k ad (σ)) sz (W5 k ad u)) (va_A (W5 k ad (σ)) sz)) (vx_X (fun z : String × Mem => px z.1 z.2) (fun E z t => E = z.1 ∧ Bw D (W5 k ad (σ)) sz (W5 k ad z.2) t) (va_A (W5 k ad (σ)) sz)) 1 6 (va_A (W5 k ad (σ)) sz) := by
  refine fw_xi hflag (wf := fun u : Mem => W5 k ad u) (by decide) rfl (Nat.le_of_ble_eq_true rfl) ?_
  intro p e s m args below meth c A Q ls hC hP hD hl hret hthr
  obtain ⟨⟨hx, hb, hml, hown, hts⟩, hG, hA⟩ := id hC
  have hK := hG.1
  have hS : va_S A s.heap s.heap [] := va_S.rf
  have hin_X5 : ∀ w ∈ u_ws RX5 TX5 4, w ∈ wq_X5_wave := fun w h => List.mem_cons_of_mem _ (iU_X5 w h)
  have hf_28 := hts _ (List.mem_cons_of_mem _ A_189)
  have hl : lv_has ls 5 [(0, .ref (ad 0)), (1, .int p1), (2, .int p2)] := hl
  have hown : s.vm.findClass RX5 = some m.cls := hown
  unfold q_X5_wave at hp
  have B_81 : ∀ (x3 : Int32) (σ : Mem) (H : Heap) (locs : List Loc) (ls : Array Slot), va_P D vwCl (W5 k ad (σ)) H → va_D A (W5 k ad (σ)) → va_S A s.heap H locs → lv_has ls 5 [(3, .int x3)] → (q_X5_wave_81 post px) x3 σ → W p l e rm_X5_wave s m args below meth c H locs 0 0 Q (F0 m 81 ls []) := by
    intro x3 σ H locs ls hP hD hS hl hp
    unfold q_X5_wave_81 at hp
    refine lv_iload_n hx hb dX5_wave_81 rfl (lv_at hl 0 rfl) ?_
    exact hret x3 (σ) _ _ _ _ _ _ dX5_wave_82 rfl hP hD hS (Nat.le_of_ble_eq_true rfl) (Nat.le_of_ble_eq_true rfl) hp
  have B_43 : ∀ (n_43 : Nat) (x1 : Int32) (x2 : Int32) (x3 : Int32) (x4 : Int32) (σ : Mem) (H : Heap) (locs : List Loc) (ls : Array Slot), va_P D vwCl (W5 k ad (σ)) H → va_D A (W5 k ad (σ)) → va_S A s.heap H locs → lv_has ls 5 [(0, .ref (ad 0)), (1, .int x1), (2, .int x2), (3, .int x3), (4, .int x4)] → lp_5 (q_X5_wave_43 post px (q_X5_wave_81 post px)) n_43 x1 x2 x3 x4 σ → W p l e rm_X5_wave s m args below meth c H locs 0 0 Q (F0 m 43 ls []) := by
    intro n_43
    induction n_43 with
    | zero => intro x1 x2 x3 x4 σ H locs ls hP hD hS hl hp; exact hp.elim
    | succ n_43 ih_43 =>
      have B_75 : ∀ (x1 : Int32) (x2 : Int32) (x3 : Int32) (x4 : Int32) (σ : Mem) (H : Heap) (locs : List Loc) (ls : Array Slot), va_P D vwCl (W5 k ad (σ)) H → va_D A (W5 k ad (σ)) → va_S A s.heap H locs → lv_has ls 5 [(0, .ref (ad 0)), (1, .int x1), (2, .int x2), (3, .int x3), (4, .int x4)] → (q_X5_wave_75 post px (q_X5_wave_81 post px) (lp_5 (q_X5_wave_43 post px (q_X5_wave_81 post px)) n_43)) x1 x2 x3 x4 σ → W p l e rm_X5_wave s m args below meth c H locs 0 0 Q (F0 m 75 ls []) := by
        intro x1 x2 x3 x4 σ H locs ls hP hD hS hl hp
        unfold q_X5_wave_75 at hp
        obtain ⟨v30001, ev30001⟩ : ∃ z : Int32, z = x4 + 1 := ⟨_, rfl⟩
        have hp := hp v30001 ev30001
        refine lv_iinc (v := v30001) (lv' := [(4, .int v30001), (0, .ref (ad 0)), (1, .int x1), (2, .int x2), (3, .int x3)]) hx hb dX5_wave_75 hl (k := 4) rfl (by rw [ev30001]; rfl) (by decide) rfl (fun ls hl => ?_)
        refine lv_goto (tgt := 43) hx hb dX5_wave_78 (by decide) ?_
        exact ih_43 x1 x2 x3 v30001 (σ) _ _ _  hP hD hS (lv_sub hl [1, 2, 3, 4, 0] rfl) hp
      intro x1 x2 x3 x4 σ H locs ls hP hD hS hl hp
      have hp : q_X5_wave_43 post px (q_X5_wave_81 post px) (lp_5 (q_X5_wave_43 post px (q_X5_wave_81 post px)) n_43) x1 x2 x3 x4 σ := hp
      unfold q_X5_wave_43 at hp
      refine lv_iload hx hb dX5_wave_43 (lv_at hl 4 rfl) ?_
      refine lv_bipush (v := 6) hx hb dX5_wave_45 (by decide) ?_
      refine lv_icmp_ge (tgt := 81) hx hb dX5_wave_47 (by decide) (fun c20001 => ?_) (fun c20001 => ?_)
      · have hp := hp.1 c20001
        exact B_81 x3 (σ) _ _ _  hP hD hS (lv_sub hl [3] rfl) hp
      · have hp := hp.2 c20001
        refine lv_iload_n hx hb dX5_wave_50 rfl (lv_at hl 2 rfl) ?_
        refine lv_iload hx hb dX5_wave_51 (lv_at hl 4 rfl) ?_
        refine fw_ciS (As := [.int x2, .int x4]) (rest := []) hC (c_X5_contains l D k hp) (va_cwS 2 hts (gA_S A_257 A_24 A_25 A_14) rfl rfl rfl (by decide +kernel) ⟨Nat.le_of_ble_eq_true rfl, Nat.le_of_ble_eq_true rfl⟩) rfl hl.1 rfl (Nat.le_of_ble_eq_true rfl) dX5_wave_53 ⟨Nat.le_of_ble_eq_true rfl, Nat.le_of_ble_eq_true rfl⟩ P_nil D_nil hS (Jn.pure (w0 := fun _ : Mem => []) hP hD) (fun r20002 σ20003 H locs hP hD hS hp => ?_)
        have hP : va_P D vwCl (W5 k ad (σ)) H := hP
        have hD : va_D A (W5 k ad (σ)) := hD
        refine lv_if_eq (tgt := 75) hx hb dX5_wave_56 (by decide) (fun c20004 => ?_) (fun c20004 => ?_)
        · have hp := hp.1 c20004
          exact B_75 x1 x2 x3 x4 (σ) _ _ _  hP hD hS (lv_sub hl [0, 1, 2, 3, 4] rfl) hp
        · have hp := hp.2 c20004
          refine lv_aload_n hx hb dX5_wave_59 rfl (lv_at hl 0 rfl) ?_
          refine va_get (D := D) (ci := 9) (C := RX5) (T := TX5) (N := 4) hx hb hts hin_X5 hown hK hP 0 rfl rfl 2 (by decide) hf_28 (fun _ h9 => h9) rfl dX5_wave_60 ?_
          refine lv_iload hx hb dX5_wave_63 (lv_at hl 4 rfl) ?_
          refine lv_iload_n hx hb dX5_wave_65 rfl (lv_at hl 1 rfl) ?_
          refine fw_ciV (As := [.int x4, .int x1]) (rest := []) hC (c_X1_bring l D k ad hp) (cwV 2 hts (gA_V A_258 A_259 A_260 A_68 A_69) rfl rfl rfl (by decide +kernel) ⟨Nat.le_of_ble_eq_true rfl, Nat.le_of_ble_eq_true rfl⟩) (va_recv hK hP (ci := 5) (q0 := 23) rfl rfl) rfl hl.1 rfl (Nat.le_of_ble_eq_true rfl) dX5_wave_66 ⟨Nat.le_of_ble_eq_true rfl, Nat.le_of_ble_eq_true rfl⟩ hP hD hS Jn.same (fun r20005 σ20006 H locs hP hD hS hp => ?_)
          have hP : va_P D vwCl (W5 k ad (σ20006)) H := hP
          have hD : va_D A (W5 k ad (σ20006)) := hD
          refine lv_if_eq (tgt := 75) hx hb dX5_wave_69 (by decide) (fun c20007 => ?_) (fun c20007 => ?_)
          · have hp := hp.1 c20007
            exact B_75 x1 x2 x3 x4 (σ20006) _ _ _  hP hD hS (lv_sub hl [0, 1, 2, 3, 4] rfl) hp
          · have hp := hp.2 c20007
            obtain ⟨v20008, ev20008⟩ : ∃ z : Int32, z = x3 + 1 := ⟨_, rfl⟩
            have hp := hp v20008 ev20008
            refine lv_iinc (v := v20008) (lv' := [(3, .int v20008), (0, .ref (ad 0)), (1, .int x1), (2, .int x2), (4, .int x4)]) hx hb dX5_wave_72 hl (k := 3) rfl (by rw [ev20008]; rfl) (by decide) rfl (fun ls hl => ?_)
            exact B_75 x1 x2 v20008 x4 (σ20006) _ _ _  hP hD hS (lv_sub hl [1, 2, 3, 0, 4] rfl) hp
  have B_28 : ∀  (σ : Mem) (H : Heap) (locs : List Loc) (ls : Array Slot), va_P D vwCl (W5 k ad (σ)) H → va_D A (W5 k ad (σ)) → va_S A s.heap H locs → lv_has ls 5 [] → (q_X5_wave_28 post px)  σ → W p l e rm_X5_wave s m args below meth c H locs 0 0 Q (F0 m 28 ls []) := by
    intro  σ H locs ls hP hD hS hl hp
    unfold q_X5_wave_28 at hp
    exact hthr "java/lang/IllegalArgumentException" "machines is not 0 to 63" ["java/lang/RuntimeException", "java/lang/Exception"] 40 140 44 (k (1000 + 140)) (σ) _ _ _ _ _ _ _ (by decide +kernel) (by decide +kernel) (hts _ (List.mem_cons_of_mem _ A_198)) (hts _ (List.mem_cons_of_mem _ A_199)) (GG.sx hG 3 rfl) (hat_44 (fun w h => hts w (List.mem_cons_of_mem _ h)) (GG.nc hG (q := ("java/lang/IllegalArgumentException", "java/lang/IllegalArgumentException")) 4 rfl) (GG.nd hG)) vO_44 hl.1 dX5_wave_28 dX5_wave_31 dX5_wave_32 dX5_wave_34 dX5_wave_37 (Nat.le_of_ble_eq_true rfl) (Nat.le_of_ble_eq_true rfl) (Nat.le_of_ble_eq_true rfl) (Nat.le_of_ble_eq_true rfl) hP hD hS (Nat.le_of_ble_eq_true rfl) (Nat.le_of_ble_eq_true rfl) hp
  refine lv_aload_n hx hb dX5_wave_0 rfl (lv_at hl 0 rfl) ?_
  refine lv_iload_n hx hb dX5_wave_1 rfl (lv_at hl 1 rfl) ?_
  refine fw_ciV (As := [.int p1]) (rest := []) hC (c_X5_isCommit l D k ad hp) (cwV 1 hts (gA_V A_254 A_255 A_256 A_25 A_253) rfl rfl rfl (by decide +kernel) ⟨Nat.le_of_ble_eq_true rfl, Nat.le_of_ble_eq_true rfl⟩) (va_recv hK hP (ci := 9) (q0 := 0) rfl rfl) rfl hl.1 rfl (Nat.le_of_ble_eq_true rfl) dX5_wave_2 ⟨Nat.le_of_ble_eq_true rfl, Nat.le_of_ble_eq_true rfl⟩ hP hD hS Jn.same (fun r1 σ2 H locs hP hD hS hp => ?_)
  have hP : va_P D vwCl (W5 k ad (σ2)) H := hP
  have hD : va_D A (W5 k ad (σ2)) := hD
  refine lv_if_ne (tgt := 18) hx hb dX5_wave_5 (by decide) (fun c3 => ?_) (fun c3 => ?_)
  · have hp := hp.1 c3
    refine lv_iload_n hx hb dX5_wave_18 rfl (lv_at hl 2 rfl) ?_
    refine lv_if_lt (tgt := 28) hx hb dX5_wave_19 (by decide) (fun c4 => ?_) (fun c4 => ?_)
    · have hp := hp.1 c4
      exact B_28  (σ2) _ _ _  hP hD hS (lv_sub hl [] rfl) hp
    · have hp := hp.2 c4
      refine lv_iload_n hx hb dX5_wave_22 rfl (lv_at hl 2 rfl) ?_
      refine lv_bipush (v := 63) hx hb dX5_wave_23 (by decide) ?_
      refine lv_icmp_le (tgt := 38) hx hb dX5_wave_25 (by decide) (fun c5 => ?_) (fun c5 => ?_)
      · have hp := hp.1 c5
        refine lv_iconst (v := 0) hx hb dX5_wave_38 (by decide) ?_
        refine lv_istore_n (lv' := [(3, .int 0), (0, .ref (ad 0)), (1, .int p1), (2, .int p2)]) hx hb dX5_wave_39 rfl hl (by decide) rfl (fun ls hl => ?_)
        refine lv_iconst (v := 0) hx hb dX5_wave_40 (by decide) ?_
        refine lv_istore (lv' := [(4, .int 0), (3, .int 0), (0, .ref (ad 0)), (1, .int p1), (2, .int p2)]) hx hb dX5_wave_41 hl (by decide) rfl (fun ls hl => ?_)
        obtain ⟨n9, hp⟩ := hp
        exact B_43 n9 p1 p2 0 0 (σ2) _ _ _  hP hD hS (lv_sub hl [2, 3, 4, 1, 0] rfl) hp
      · have hp := hp.2 c5
        exact B_28  (σ2) _ _ _  hP hD hS (lv_sub hl [] rfl) hp
  · have hp := hp.2 c3
    exact hthr "java/lang/IndexOutOfBoundsException" "no such commit" ["java/lang/RuntimeException", "java/lang/Exception"] 65 138 69 (k (1000 + 138)) (σ2) _ _ _ _ _ _ _ (by decide +kernel) (by decide +kernel) (hts _ (List.mem_cons_of_mem _ A_217)) (hts _ (List.mem_cons_of_mem _ A_218)) (GG.sx hG 2 rfl) (hat_69 (fun w h => hts w (List.mem_cons_of_mem _ h)) (GG.nc hG (q := ("java/lang/IndexOutOfBoundsException", "java/lang/IndexOutOfBoundsException")) 6 rfl) (GG.nd hG)) vO_69 hl.1 dX5_wave_8 dX5_wave_11 dX5_wave_12 dX5_wave_14 dX5_wave_17 (Nat.le_of_ble_eq_true rfl) (Nat.le_of_ble_eq_true rfl) (Nat.le_of_ble_eq_true rfl) (Nat.le_of_ble_eq_true rfl) hP hD hS (Nat.le_of_ble_eq_true rfl) (Nat.le_of_ble_eq_true rfl) hp
def q_X5_patch_15  (post : Int32 → Mem → Prop) (px : String → Mem → Prop)  (σ : Mem) : Prop := (px "java/lang/IndexOutOfBoundsException" (σ))
def q_X5_patch  (post : Int32 → Mem → Prop) (px : String → Mem → Prop) (p1 : Int32) (p2 : Int32) (p3 : Int32) (σ : Mem) : Prop := (q_X5_isMachine (fun (r1 : Int32) (σ2 : Mem) => ((r1 = 0 → (q_X5_patch_15 post px) (σ)) ∧ (¬ (r1 = 0) → (q_X5_isField (fun (r4 : Int32) (σ5 : Mem) => ((r4 ≠ 0 → (q_X5_isNumber (fun (r7 : Int32) (σ8 : Mem) => ((r7 ≠ 0 → (vp_in p1 6 ∧ (vp_in p2 5 ∧ (∀ v12 : Int32, v12 = ((σ5) (39 + p1.toNatClampNeg) p2.toNatClampNeg) → (vp_in p1 6 ∧ (vp_in p2 5 ∧ (∀ σ15 : Mem, σ15 = mup (σ5) (39 + p1.toNatClampNeg) (upd ((σ5) (39 + p1.toNatClampNeg)) p2.toNatClampNeg p3) → post v12 (σ15)))))))) ∧ (r7 = 0 → (px "java/lang/IllegalArgumentException" (σ5))))) p3 (σ5))) ∧ (r4 = 0 → (q_X5_patch_15 post px) (σ5)))) p2 (σ))))) p1 (σ))
abbrev rm_X5_patch : Room := { frames := 6, cells := 1, slots := 6, locals := 200 }
abbrev wq_X5_patch : List Cond := Cond.code yX5_patch cX5_patch 5 (some .int) :: wALL
set_option maxHeartbeats 4000000 in
set_option maxRecDepth 100000 in
theorem c_X5_patch (l : Launch) (hflag : l.stackTraces = false) (D : va_G) (k ad : Nat → Nat) {sz : Nat} {σ : Mem} {p1 : Int32} {p2 : Int32} {p3 : Int32} {post : Int32 → Mem → Prop} {px : String → Mem → Prop} (hp : q_X5_patch post px p1 p2 p3 σ) : vx_Met l yX5_patch wq_X5_patch rm_X5_patch (va_Pc [.ref (ad 0), .int p1, .int p2, .int p3] (Pw D k (W5 k ad (σ)) sz)) (va_Qi post (fun u => Bw D (W5 k ad (σ)) sz (W5 k ad u)) (va_A (W5 k ad (σ)) sz)) (vx_X (fun z : String × Mem => px z.1 z.2) (fun E z t => E = z.1 ∧ Bw D (W5 k ad (σ)) sz (W5 k ad z.2) t) (va_A (W5 k ad (σ)) sz)) 1 6 (va_A (W5 k ad (σ)) sz) := by
  refine fw_xi hflag (wf := fun u : Mem => W5 k ad u) (by decide) rfl (Nat.le_of_ble_eq_true rfl) ?_
  intro p e s m args below meth c A Q ls hC hP hD hl hret hthr
  obtain ⟨⟨hx, hb, hml, hown, hts⟩, hG, hA⟩ := id hC
  have hK := hG.1
  have hS : va_S A s.heap s.heap [] := va_S.rf
  have hin_X5 : ∀ w ∈ u_ws RX5 TX5 4, w ∈ wq_X5_patch := fun w h => List.mem_cons_of_mem _ (iU_X5 w h)
  have hf_28 := hts _ (List.mem_cons_of_mem _ A_189)
  have hin_X1 : ∀ w ∈ u_ws RX1 TX1 4, w ∈ wq_X5_patch := fun w h => List.mem_cons_of_mem _ (iU_X1 w h)
  have hf_156 := hts _ (List.mem_cons_of_mem _ A_264)
  have hl : lv_has ls 5 [(0, .ref (ad 0)), (1, .int p1), (2, .int p2), (3, .int p3)] := hl
  have hown : s.vm.findClass RX5 = some m.cls := hown
  unfold q_X5_patch at hp
  have B_15 : ∀  (σ : Mem) (H : Heap) (locs : List Loc) (ls : Array Slot), va_P D vwCl (W5 k ad (σ)) H → va_D A (W5 k ad (σ)) → va_S A s.heap H locs → lv_has ls 5 [] → (q_X5_patch_15 post px)  σ → W p l e rm_X5_patch s m args below meth c H locs 0 0 Q (F0 m 15 ls []) := by
    intro  σ H locs ls hP hD hS hl hp
    unfold q_X5_patch_15 at hp
    exact hthr "java/lang/IndexOutOfBoundsException" "no such machine or field" ["java/lang/RuntimeException", "java/lang/Exception"] 65 152 69 (k (1000 + 152)) (σ) _ _ _ _ _ _ _ (by decide +kernel) (by decide +kernel) (hts _ (List.mem_cons_of_mem _ A_217)) (hts _ (List.mem_cons_of_mem _ A_218)) (GG.sx hG 4 rfl) (hat_69 (fun w h => hts w (List.mem_cons_of_mem _ h)) (GG.nc hG (q := ("java/lang/IndexOutOfBoundsException", "java/lang/IndexOutOfBoundsException")) 6 rfl) (GG.nd hG)) vO_69 hl.1 dX5_patch_15 dX5_patch_18 dX5_patch_19 dX5_patch_21 dX5_patch_24 (Nat.le_of_ble_eq_true rfl) (Nat.le_of_ble_eq_true rfl) (Nat.le_of_ble_eq_true rfl) (Nat.le_of_ble_eq_true rfl) hP hD hS (Nat.le_of_ble_eq_true rfl) (Nat.le_of_ble_eq_true rfl) hp
  refine lv_iload_n hx hb dX5_patch_0 rfl (lv_at hl 1 rfl) ?_
  refine fw_ciS (As := [.int p1]) (rest := []) hC (c_X5_isMachine l D k hp) (va_cwS 1 hts (gA_S A_265 A_266 A_25 A_262) rfl rfl rfl (by decide +kernel) ⟨Nat.le_of_ble_eq_true rfl, Nat.le_of_ble_eq_true rfl⟩) rfl hl.1 rfl (Nat.le_of_ble_eq_true rfl) dX5_patch_1 ⟨Nat.le_of_ble_eq_true rfl, Nat.le_of_ble_eq_true rfl⟩ P_nil D_nil hS (Jn.pure (w0 := fun _ : Mem => []) hP hD) (fun r1 σ2 H locs hP hD hS hp => ?_)
  have hP : va_P D vwCl (W5 k ad (σ)) H := hP
  have hD : va_D A (W5 k ad (σ)) := hD
  refine lv_if_eq (tgt := 15) hx hb dX5_patch_4 (by decide) (fun c3 => ?_) (fun c3 => ?_)
  · have hp := hp.1 c3
    exact B_15  (σ) _ _ _  hP hD hS (lv_sub hl [] rfl) hp
  · have hp := hp.2 c3
    refine lv_aload_n hx hb dX5_patch_7 rfl (lv_at hl 0 rfl) ?_
    refine lv_iload_n hx hb dX5_patch_8 rfl (lv_at hl 2 rfl) ?_
    refine fw_ciV (As := [.int p2]) (rest := []) hC (c_X5_isField l D k ad hp) (cwV 1 hts (gA_V A_220 A_221 A_222 A_25 A_212) rfl rfl rfl (by decide +kernel) ⟨Nat.le_of_ble_eq_true rfl, Nat.le_of_ble_eq_true rfl⟩) (va_recv hK hP (ci := 9) (q0 := 0) rfl rfl) rfl hl.1 rfl (Nat.le_of_ble_eq_true rfl) dX5_patch_9 ⟨Nat.le_of_ble_eq_true rfl, Nat.le_of_ble_eq_true rfl⟩ hP hD hS Jn.same (fun r4 σ5 H locs hP hD hS hp => ?_)
    have hP : va_P D vwCl (W5 k ad (σ5)) H := hP
    have hD : va_D A (W5 k ad (σ5)) := hD
    refine lv_if_ne (tgt := 25) hx hb dX5_patch_12 (by decide) (fun c6 => ?_) (fun c6 => ?_)
    · have hp := hp.1 c6
      refine lv_iload_n hx hb dX5_patch_25 rfl (lv_at hl 3 rfl) ?_
      refine fw_ciS (As := [.int p3]) (rest := []) hC (c_X5_isNumber l D k hp) (va_cwS 1 hts (gA_S A_228 A_229 A_25 A_227) rfl rfl rfl (by decide +kernel) ⟨Nat.le_of_ble_eq_true rfl, Nat.le_of_ble_eq_true rfl⟩) rfl hl.1 rfl (Nat.le_of_ble_eq_true rfl) dX5_patch_26 ⟨Nat.le_of_ble_eq_true rfl, Nat.le_of_ble_eq_true rfl⟩ P_nil D_nil hS (Jn.pure (w0 := fun _ : Mem => []) hP hD) (fun r7 σ8 H locs hP hD hS hp => ?_)
      have hP : va_P D vwCl (W5 k ad (σ5)) H := hP
      have hD : va_D A (W5 k ad (σ5)) := hD
      refine lv_if_ne (tgt := 42) hx hb dX5_patch_29 (by decide) (fun c9 => ?_) (fun c9 => ?_)
      · have hp := hp.1 c9
        refine lv_aload_n hx hb dX5_patch_42 rfl (lv_at hl 0 rfl) ?_
        refine va_get (D := D) (ci := 9) (C := RX5) (T := TX5) (N := 4) hx hb hts hin_X5 hown hK hP 0 rfl rfl 2 (by decide) hf_28 (fun _ h9 => h9) rfl dX5_patch_43 ?_
        refine va_get (D := D) (ci := 5) (C := RX1) (T := TX1) (N := 4) hx hb hts hin_X1 hown hK hP 23 rfl rfl 1 (by decide) hf_156 (fun _ h9 => h9) rfl dX5_patch_46 ?_
        refine lv_iload_n hx hb dX5_patch_49 rfl (lv_at hl 1 rfl) ?_
        obtain ⟨h10, hp⟩ := hp
        refine va_ald2 hx hb hK hP 25 2 rfl rfl h10 (if_some (vin_lt h10) _) dX5_patch_50 ?_
        refine lv_iload_n hx hb dX5_patch_51 rfl (lv_at hl 2 rfl) ?_
        obtain ⟨h11, hp⟩ := hp
        refine va_iald hx hb hK hP (39 + p1.toNatClampNeg) 0 (W5_had k ad (σ5) (vin_lt h10)) rfl h11 dX5_patch_52 ?_
        refine lv_topi (fun v12 ev12 => ?_)
        have hp := hp v12 ev12
        refine lv_istore (lv' := [(4, .int v12), (0, .ref (ad 0)), (1, .int p1), (2, .int p2), (3, .int p3)]) hx hb dX5_patch_53 hl (by decide) rfl (fun ls hl => ?_)
        refine lv_aload_n hx hb dX5_patch_55 rfl (lv_at hl 1 rfl) ?_
        refine va_get (D := D) (ci := 9) (C := RX5) (T := TX5) (N := 4) hx hb hts hin_X5 hown hK hP 0 rfl rfl 2 (by decide) hf_28 (fun _ h9 => h9) rfl dX5_patch_56 ?_
        refine va_get (D := D) (ci := 5) (C := RX1) (T := TX1) (N := 4) hx hb hts hin_X1 hown hK hP 23 rfl rfl 1 (by decide) hf_156 (fun _ h9 => h9) rfl dX5_patch_59 ?_
        refine lv_iload_n hx hb dX5_patch_62 rfl (lv_at hl 2 rfl) ?_
        obtain ⟨h13, hp⟩ := hp
        refine va_ald2 hx hb hK hP 25 2 rfl rfl h13 (if_some (vin_lt h13) _) dX5_patch_63 ?_
        refine lv_iload_n hx hb dX5_patch_64 rfl (lv_at hl 3 rfl) ?_
        refine lv_iload_n hx hb dX5_patch_65 rfl (lv_at hl 4 rfl) ?_
        obtain ⟨h14, hp⟩ := hp
        refine va_iast hx hb hK hP hD hS (39 + p1.toNatClampNeg) 0 (W5_had k ad (σ5) (vin_lt h13)) rfl h14 dX5_patch_66 (fun H locs hP hD hS => ?_)
        rw [W5_hadS k ad (σ5) (vin_lt h13)] at hP hD
        obtain ⟨σ15, eσ15⟩ : ∃ z : Mem, z = mup (σ5) (39 + p1.toNatClampNeg) (upd ((σ5) (39 + p1.toNatClampNeg)) p2.toNatClampNeg p3) := ⟨_, rfl⟩
        have hp := hp σ15 eσ15
        have hP : va_P D vwCl (W5 k ad (σ15)) H := by rw [eσ15]; exact hP
        have hD : va_D A (W5 k ad (σ15)) := by rw [eσ15]; exact hD
        refine lv_iload hx hb dX5_patch_67 (lv_at hl 0 rfl) ?_
        exact hret v12 (σ15) _ _ _ _ _ _ dX5_patch_69 rfl hP hD hS (Nat.le_of_ble_eq_true rfl) (Nat.le_of_ble_eq_true rfl) hp
      · have hp := hp.2 c9
        exact hthr "java/lang/IllegalArgumentException" "number is not 0 to 7" ["java/lang/RuntimeException", "java/lang/Exception"] 40 154 44 (k (1000 + 154)) (σ5) _ _ _ _ _ _ _ (by decide +kernel) (by decide +kernel) (hts _ (List.mem_cons_of_mem _ A_198)) (hts _ (List.mem_cons_of_mem _ A_199)) (GG.sx hG 5 rfl) (hat_44 (fun w h => hts w (List.mem_cons_of_mem _ h)) (GG.nc hG (q := ("java/lang/IllegalArgumentException", "java/lang/IllegalArgumentException")) 4 rfl) (GG.nd hG)) vO_44 hl.1 dX5_patch_32 dX5_patch_35 dX5_patch_36 dX5_patch_38 dX5_patch_41 (Nat.le_of_ble_eq_true rfl) (Nat.le_of_ble_eq_true rfl) (Nat.le_of_ble_eq_true rfl) (Nat.le_of_ble_eq_true rfl) hP hD hS (Nat.le_of_ble_eq_true rfl) (Nat.le_of_ble_eq_true rfl) hp
    · have hp := hp.2 c6
      exact B_15  (σ5) _ _ _  hP hD hS (lv_sub hl [] rfl) hp
def q_X5_absorb_68  (post : Int32 → Mem → Prop) (px : String → Mem → Prop)  (σ : Mem) : Prop := (px "java/lang/IllegalStateException" (σ))
def q_X5_absorb_15  (post : Int32 → Mem → Prop) (px : String → Mem → Prop)  (σ : Mem) : Prop := (px "java/lang/IndexOutOfBoundsException" (σ))
def q_X5_absorb  (post : Int32 → Mem → Prop) (px : String → Mem → Prop) (p1 : Int32) (p2 : Int32) (σ : Mem) : Prop := (q_X5_isMachine (fun (r1 : Int32) (σ2 : Mem) => ((r1 = 0 → (q_X5_absorb_15 post px) (σ)) ∧ (¬ (r1 = 0) → (q_X5_isField (fun (r4 : Int32) (σ5 : Mem) => ((r4 ≠ 0 → (vp_in p1 6 ∧ (vp_in p2 5 ∧ (∀ v9 : Int32, v9 = ((σ5) (39 + p1.toNatClampNeg) p2.toNatClampNeg) → (q_X1_drifts (fun (r10 : Int32) (σ11 : Mem) => ((r10 = 0 → (q_X5_absorb_68 post px) (σ11)) ∧ (¬ (r10 = 0) → (q_X5_isNumber (fun (r13 : Int32) (σ14 : Mem) => ((r13 = 0 → (q_X5_absorb_68 post px) (σ11)) ∧ (¬ (r13 = 0) → ((((σ11) 1 10) < 30 → (vp_in p2 5 ∧ (q_X5_tell (fun (r18 : Int32) (σ19 : Mem) => post r18 (σ19)) 0 ((σ11) 2 p2.toNatClampNeg) p2 ((1 : Int32) <<< (v9 &&& 31)) 0 (σ11)))) ∧ (¬ (((σ11) 1 10) < 30) → (q_X5_absorb_68 post px) (σ11)))))) v9 (σ11))))) p1 p2 (σ5)))))) ∧ (r4 = 0 → (q_X5_absorb_15 post px) (σ5)))) p2 (σ))))) p1 (σ))
abbrev rm_X5_absorb : Room := { frames := 20, cells := 1, slots := 6, locals := 933 }
abbrev wq_X5_absorb : List Cond := Cond.code yX5_absorb cX5_absorb 4 (some .int) :: wALL
set_option maxHeartbeats 4000000 in
set_option maxRecDepth 100000 in
theorem c_X5_absorb (l : Launch) (hflag : l.stackTraces = false) (D : va_G) (k ad : Nat → Nat) {sz : Nat} {σ : Mem} {p1 : Int32} {p2 : Int32} {post : Int32 → Mem → Prop} {px : String → Mem → Prop} (hp : q_X5_absorb post px p1 p2 σ) : vx_Met l yX5_absorb wq_X5_absorb rm_X5_absorb (va_Pc [.ref (ad 0), .int p1, .int p2] (Pw D k (W5 k ad (σ)) sz)) (va_Qi post (fun u => Bw D (W5 k ad (σ)) sz (W5 k ad u)) (va_A (W5 k ad (σ)) sz)) (vx_X (fun z : String × Mem => px z.1 z.2) (fun E z t => E = z.1 ∧ Bw D (W5 k ad (σ)) sz (W5 k ad z.2) t) (va_A (W5 k ad (σ)) sz)) 1 6 (va_A (W5 k ad (σ)) sz) := by
  refine fw_xi hflag (wf := fun u : Mem => W5 k ad u) (by decide) rfl (Nat.le_of_ble_eq_true rfl) ?_
  intro p e s m args below meth c A Q ls hC hP hD hl hret hthr
  obtain ⟨⟨hx, hb, hml, hown, hts⟩, hG, hA⟩ := id hC
  have hK := hG.1
  have hS : va_S A s.heap s.heap [] := va_S.rf
  have hin_X5 : ∀ w ∈ u_ws RX5 TX5 4, w ∈ wq_X5_absorb := fun w h => List.mem_cons_of_mem _ (iU_X5 w h)
  have hf_28 := hts _ (List.mem_cons_of_mem _ A_189)
  have hin_X1 : ∀ w ∈ u_ws RX1 TX1 4, w ∈ wq_X5_absorb := fun w h => List.mem_cons_of_mem _ (iU_X1 w h)
  have hf_156 := hts _ (List.mem_cons_of_mem _ A_264)
  have hf_10 := hts _ (List.mem_cons_of_mem _ A_183)
  have hin_X2 : ∀ w ∈ u_ws RX2 TX2 11, w ∈ wq_X5_absorb := fun w h => List.mem_cons_of_mem _ (iU_X2 w h)
  have hf_72 := hts _ (List.mem_cons_of_mem _ A_219)
  have hf_165 := hts _ (List.mem_cons_of_mem _ A_267)
  have hl : lv_has ls 4 [(0, .ref (ad 0)), (1, .int p1), (2, .int p2)] := hl
  have hown : s.vm.findClass RX5 = some m.cls := hown
  unfold q_X5_absorb at hp
  have B_68 : ∀  (σ : Mem) (H : Heap) (locs : List Loc) (ls : Array Slot), va_P D vwCl (W5 k ad (σ)) H → va_D A (W5 k ad (σ)) → va_S A s.heap H locs → lv_has ls 4 [] → (q_X5_absorb_68 post px)  σ → W p l e rm_X5_absorb s m args below meth c H locs 0 0 Q (F0 m 68 ls []) := by
    intro  σ H locs ls hP hD hS hl hp
    unfold q_X5_absorb_68 at hp
    exact hthr "java/lang/IllegalStateException" "that does not drift there, or there are 30 lines" ["java/lang/RuntimeException", "java/lang/Exception"] 50 163 54 (k (1000 + 163)) (σ) _ _ _ _ _ _ _ (by decide +kernel) (by decide +kernel) (hts _ (List.mem_cons_of_mem _ A_200)) (hts _ (List.mem_cons_of_mem _ A_201)) (GG.sx hG 6 rfl) (hat_54 (fun w h => hts w (List.mem_cons_of_mem _ h)) (GG.nc hG (q := ("java/lang/IllegalStateException", "java/lang/IllegalStateException")) 5 rfl) (GG.nd hG)) vO_54 hl.1 dX5_absorb_68 dX5_absorb_71 dX5_absorb_72 dX5_absorb_74 dX5_absorb_77 (Nat.le_of_ble_eq_true rfl) (Nat.le_of_ble_eq_true rfl) (Nat.le_of_ble_eq_true rfl) (Nat.le_of_ble_eq_true rfl) hP hD hS (Nat.le_of_ble_eq_true rfl) (Nat.le_of_ble_eq_true rfl) hp
  have B_15 : ∀  (σ : Mem) (H : Heap) (locs : List Loc) (ls : Array Slot), va_P D vwCl (W5 k ad (σ)) H → va_D A (W5 k ad (σ)) → va_S A s.heap H locs → lv_has ls 4 [] → (q_X5_absorb_15 post px)  σ → W p l e rm_X5_absorb s m args below meth c H locs 0 0 Q (F0 m 15 ls []) := by
    intro  σ H locs ls hP hD hS hl hp
    unfold q_X5_absorb_15 at hp
    exact hthr "java/lang/IndexOutOfBoundsException" "no such machine or field" ["java/lang/RuntimeException", "java/lang/Exception"] 65 152 69 (k (1000 + 152)) (σ) _ _ _ _ _ _ _ (by decide +kernel) (by decide +kernel) (hts _ (List.mem_cons_of_mem _ A_217)) (hts _ (List.mem_cons_of_mem _ A_218)) (GG.sx hG 4 rfl) (hat_69 (fun w h => hts w (List.mem_cons_of_mem _ h)) (GG.nc hG (q := ("java/lang/IndexOutOfBoundsException", "java/lang/IndexOutOfBoundsException")) 6 rfl) (GG.nd hG)) vO_69 hl.1 dX5_absorb_15 dX5_absorb_18 dX5_absorb_19 dX5_absorb_21 dX5_absorb_24 (Nat.le_of_ble_eq_true rfl) (Nat.le_of_ble_eq_true rfl) (Nat.le_of_ble_eq_true rfl) (Nat.le_of_ble_eq_true rfl) hP hD hS (Nat.le_of_ble_eq_true rfl) (Nat.le_of_ble_eq_true rfl) hp
  refine lv_iload_n hx hb dX5_absorb_0 rfl (lv_at hl 1 rfl) ?_
  refine fw_ciS (As := [.int p1]) (rest := []) hC (c_X5_isMachine l D k hp) (va_cwS 1 hts (gA_S A_265 A_266 A_25 A_262) rfl rfl rfl (by decide +kernel) ⟨Nat.le_of_ble_eq_true rfl, Nat.le_of_ble_eq_true rfl⟩) rfl hl.1 rfl (Nat.le_of_ble_eq_true rfl) dX5_absorb_1 ⟨Nat.le_of_ble_eq_true rfl, Nat.le_of_ble_eq_true rfl⟩ P_nil D_nil hS (Jn.pure (w0 := fun _ : Mem => []) hP hD) (fun r1 σ2 H locs hP hD hS hp => ?_)
  have hP : va_P D vwCl (W5 k ad (σ)) H := hP
  have hD : va_D A (W5 k ad (σ)) := hD
  refine lv_if_eq (tgt := 15) hx hb dX5_absorb_4 (by decide) (fun c3 => ?_) (fun c3 => ?_)
  · have hp := hp.1 c3
    exact B_15  (σ) _ _ _  hP hD hS (lv_sub hl [] rfl) hp
  · have hp := hp.2 c3
    refine lv_aload_n hx hb dX5_absorb_7 rfl (lv_at hl 0 rfl) ?_
    refine lv_iload_n hx hb dX5_absorb_8 rfl (lv_at hl 2 rfl) ?_
    refine fw_ciV (As := [.int p2]) (rest := []) hC (c_X5_isField l D k ad hp) (cwV 1 hts (gA_V A_220 A_221 A_222 A_25 A_212) rfl rfl rfl (by decide +kernel) ⟨Nat.le_of_ble_eq_true rfl, Nat.le_of_ble_eq_true rfl⟩) (va_recv hK hP (ci := 9) (q0 := 0) rfl rfl) rfl hl.1 rfl (Nat.le_of_ble_eq_true rfl) dX5_absorb_9 ⟨Nat.le_of_ble_eq_true rfl, Nat.le_of_ble_eq_true rfl⟩ hP hD hS Jn.same (fun r4 σ5 H locs hP hD hS hp => ?_)
    have hP : va_P D vwCl (W5 k ad (σ5)) H := hP
    have hD : va_D A (W5 k ad (σ5)) := hD
    refine lv_if_ne (tgt := 25) hx hb dX5_absorb_12 (by decide) (fun c6 => ?_) (fun c6 => ?_)
    · have hp := hp.1 c6
      refine lv_aload_n hx hb dX5_absorb_25 rfl (lv_at hl 0 rfl) ?_
      refine va_get (D := D) (ci := 9) (C := RX5) (T := TX5) (N := 4) hx hb hts hin_X5 hown hK hP 0 rfl rfl 2 (by decide) hf_28 (fun _ h9 => h9) rfl dX5_absorb_26 ?_
      refine va_get (D := D) (ci := 5) (C := RX1) (T := TX1) (N := 4) hx hb hts hin_X1 hown hK hP 23 rfl rfl 1 (by decide) hf_156 (fun _ h9 => h9) rfl dX5_absorb_29 ?_
      refine lv_iload_n hx hb dX5_absorb_32 rfl (lv_at hl 1 rfl) ?_
      obtain ⟨h7, hp⟩ := hp
      refine va_ald2 hx hb hK hP 25 2 rfl rfl h7 (if_some (vin_lt h7) _) dX5_absorb_33 ?_
      refine lv_iload_n hx hb dX5_absorb_34 rfl (lv_at hl 2 rfl) ?_
      obtain ⟨h8, hp⟩ := hp
      refine va_iald hx hb hK hP (39 + p1.toNatClampNeg) 0 (W5_had k ad (σ5) (vin_lt h7)) rfl h8 dX5_absorb_35 ?_
      refine lv_topi (fun v9 ev9 => ?_)
      have hp := hp v9 ev9
      refine lv_istore_n (lv' := [(3, .int v9), (0, .ref (ad 0)), (1, .int p1), (2, .int p2)]) hx hb dX5_absorb_36 rfl hl (by decide) rfl (fun ls hl => ?_)
      refine lv_aload_n hx hb dX5_absorb_37 rfl (lv_at hl 1 rfl) ?_
      refine va_get (D := D) (ci := 9) (C := RX5) (T := TX5) (N := 4) hx hb hts hin_X5 hown hK hP 0 rfl rfl 2 (by decide) hf_28 (fun _ h9 => h9) rfl dX5_absorb_38 ?_
      refine lv_iload_n hx hb dX5_absorb_41 rfl (lv_at hl 2 rfl) ?_
      refine lv_iload_n hx hb dX5_absorb_42 rfl (lv_at hl 3 rfl) ?_
      refine fw_ciV (As := [.int p1, .int p2]) (rest := []) hC (c_X1_drifts l D k ad hp) (cwV 2 hts (gA_V A_268 A_66 A_67 A_68 A_63) rfl rfl rfl (by decide +kernel) ⟨Nat.le_of_ble_eq_true rfl, Nat.le_of_ble_eq_true rfl⟩) (va_recv hK hP (ci := 5) (q0 := 23) rfl rfl) rfl hl.1 rfl (Nat.le_of_ble_eq_true rfl) dX5_absorb_43 ⟨Nat.le_of_ble_eq_true rfl, Nat.le_of_ble_eq_true rfl⟩ hP hD hS Jn.same (fun r10 σ11 H locs hP hD hS hp => ?_)
      have hP : va_P D vwCl (W5 k ad (σ11)) H := hP
      have hD : va_D A (W5 k ad (σ11)) := hD
      refine lv_if_eq (tgt := 68) hx hb dX5_absorb_46 (by decide) (fun c12 => ?_) (fun c12 => ?_)
      · have hp := hp.1 c12
        exact B_68  (σ11) _ _ _  hP hD hS (lv_sub hl [] rfl) hp
      · have hp := hp.2 c12
        refine lv_iload_n hx hb dX5_absorb_49 rfl (lv_at hl 0 rfl) ?_
        refine fw_ciS (As := [.int v9]) (rest := []) hC (c_X5_isNumber l D k hp) (va_cwS 1 hts (gA_S A_228 A_229 A_25 A_227) rfl rfl rfl (by decide +kernel) ⟨Nat.le_of_ble_eq_true rfl, Nat.le_of_ble_eq_true rfl⟩) rfl hl.1 rfl (Nat.le_of_ble_eq_true rfl) dX5_absorb_50 ⟨Nat.le_of_ble_eq_true rfl, Nat.le_of_ble_eq_true rfl⟩ P_nil D_nil hS (Jn.pure (w0 := fun _ : Mem => []) hP hD) (fun r13 σ14 H locs hP hD hS hp => ?_)
        have hP : va_P D vwCl (W5 k ad (σ11)) H := hP
        have hD : va_D A (W5 k ad (σ11)) := hD
        refine lv_if_eq (tgt := 68) hx hb dX5_absorb_53 (by decide) (fun c15 => ?_) (fun c15 => ?_)
        · have hp := hp.1 c15
          exact B_68  (σ11) _ _ _  hP hD hS (lv_sub hl [] rfl) hp
        · have hp := hp.2 c15
          refine lv_aload_n hx hb dX5_absorb_56 rfl (lv_at hl 1 rfl) ?_
          refine va_get (D := D) (ci := 9) (C := RX5) (T := TX5) (N := 4) hx hb hts hin_X5 hown hK hP 0 rfl rfl 0 (by decide) hf_10 (fun _ h9 => h9) rfl dX5_absorb_57 ?_
          refine va_get (D := D) (ci := 6) (C := RX2) (T := TX2) (N := 11) hx hb hts hin_X2 hown hK hP 1 rfl rfl 10 (by decide) hf_72 (fun _ h9 => h9) rfl dX5_absorb_60 ?_
          refine lv_bipush (v := 30) hx hb dX5_absorb_63 (by decide) ?_
          refine lv_icmp_lt (tgt := 78) hx hb dX5_absorb_65 (by decide) (fun c16 => ?_) (fun c16 => ?_)
          · have hp := hp.1 c16
            refine lv_aload_n hx hb dX5_absorb_78 rfl (lv_at hl 1 rfl) ?_
            refine lv_iconst (v := 0) hx hb dX5_absorb_79 (by decide) ?_
            refine lv_aload_n hx hb dX5_absorb_80 rfl (lv_at hl 1 rfl) ?_
            refine va_get (D := D) (ci := 9) (C := RX5) (T := TX5) (N := 4) hx hb hts hin_X5 hown hK hP 0 rfl rfl 0 (by decide) hf_10 (fun _ h9 => h9) rfl dX5_absorb_81 ?_
            refine va_get (D := D) (ci := 6) (C := RX2) (T := TX2) (N := 11) hx hb hts hin_X2 hown hK hP 1 rfl rfl 0 (by decide) hf_165 (fun _ h9 => h9) rfl dX5_absorb_84 ?_
            refine lv_iload_n hx hb dX5_absorb_87 rfl (lv_at hl 3 rfl) ?_
            obtain ⟨h17, hp⟩ := hp
            refine va_iald hx hb hK hP 2 0 rfl rfl h17 dX5_absorb_88 ?_
            refine lv_iload_n hx hb dX5_absorb_89 rfl (lv_at hl 3 rfl) ?_
            refine lv_iconst (v := 1) hx hb dX5_absorb_90 (by decide) ?_
            refine lv_iload_n hx hb dX5_absorb_91 rfl (lv_at hl 0 rfl) ?_
            refine lv_ishl hx hb dX5_absorb_92 ?_
            refine lv_iconst (v := 0) hx hb dX5_absorb_93 (by decide) ?_
            refine fw_ciV (As := [.int 0, .int ((σ11) 2 p2.toNatClampNeg), .int p2, .int ((1 : Int32) <<< (v9 &&& 31)), .int 0]) (rest := []) hC (c_X5_tell l D k ad hp) (cwV 5 hts (gA_V A_223 A_224 A_225 A_25 A_216) rfl rfl rfl (by decide +kernel) ⟨Nat.le_of_ble_eq_true rfl, Nat.le_of_ble_eq_true rfl⟩) (va_recv hK hP (ci := 9) (q0 := 0) rfl rfl) rfl hl.1 rfl (Nat.le_of_ble_eq_true rfl) dX5_absorb_94 ⟨Nat.le_of_ble_eq_true rfl, Nat.le_of_ble_eq_true rfl⟩ hP hD hS Jn.same (fun r18 σ19 H locs hP hD hS hp => ?_)
            have hP : va_P D vwCl (W5 k ad (σ19)) H := hP
            have hD : va_D A (W5 k ad (σ19)) := hD
            exact hret r18 (σ19) _ _ _ _ _ _ dX5_absorb_97 rfl hP hD hS (Nat.le_of_ble_eq_true rfl) (Nat.le_of_ble_eq_true rfl) hp
          · have hp := hp.2 c16
            exact B_68  (σ11) _ _ _  hP hD hS (lv_sub hl [] rfl) hp
    · have hp := hp.2 c6
      exact B_15  (σ5) _ _ _  hP hD hS (lv_sub hl [] rfl) hp
