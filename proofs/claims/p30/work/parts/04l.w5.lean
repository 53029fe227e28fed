abbrev rm0_X5_field : Room := { frames := 19, cells := 0, slots := 0, locals := 907 }
set_option maxHeartbeats 4000000 in
set_option maxRecDepth 100000 in
theorem c0_X5_field (l : Launch) (D : va_G) (k ad : Nat → Nat) {sz : Nat} {σ : Mem} {p1 : Int32} {post : Int32 → Mem → Prop} (hp : q_X5_field post (fun _ _ => False) p1 σ) : Met l yX5_field wq_X5_field rm0_X5_field (va_Pc [.ref (ad 0), .int p1] (Pw D k (W5 k ad (σ)) sz)) (va_Qi post (fun u => Bw D (W5 k ad (σ)) sz (W5 k ad u)) (va_A (W5 k ad (σ)) sz)) 0 0 (va_A (W5 k ad (σ)) sz) := by
  refine fw_i (wf := fun u : Mem => W5 k ad u) (by decide) rfl (Nat.le_of_ble_eq_true rfl) ?_
  intro p e s m args below meth c A Q ls hC hP hD hl hret
  obtain ⟨⟨hx, hb, hml, hown, hts⟩, hG, hA⟩ := id hC
  have hK := hG.1
  have hS : va_S A s.heap s.heap [] := va_S.rf
  have hin_X5 : ∀ w ∈ u_ws RX5 TX5 4, w ∈ wq_X5_field := fun w h => List.mem_cons_of_mem _ (iU_X5 w h)
  have hf_10 := hts _ (List.mem_cons_of_mem _ A_178)
  have hin_X2 : ∀ w ∈ u_ws RX2 TX2 11, w ∈ wq_X5_field := fun w h => List.mem_cons_of_mem _ (iU_X2 w h)
  have hf_47 := hts _ (List.mem_cons_of_mem _ A_197)
  have hf_21 := hts _ (List.mem_cons_of_mem _ A_181)
  have hl : lv_has ls 3 [(0, .ref (ad 0)), (1, .int p1)] := hl
  have hown : s.vm.findClass RX5 = some m.cls := hown
  unfold q_X5_field at hp
  refine lv_iload_n hx hb dX5_field_0 rfl (lv_at hl 1 rfl) ?_
  refine fw_ciS (As := [.int p1]) (rest := []) hC (c_X5_isTeam l D k hp) (va_cwS 1 hts (gA_S A_198 A_199 A_25 A_192) rfl rfl rfl (by decide +kernel) ⟨Nat.le_of_ble_eq_true rfl, Nat.le_of_ble_eq_true rfl⟩) rfl hl.1 rfl (Nat.le_of_ble_eq_true rfl) dX5_field_1 ⟨Nat.le_of_ble_eq_true rfl, Nat.le_of_ble_eq_true rfl⟩ P_nil D_nil hS (Jn.pure (w0 := fun _ : Mem => []) hP hD) (fun r1 σ2 H locs hP hD hS hp => ?_)
  have hP : va_P D vwCl (W5 k ad (σ)) H := hP
  have hD : va_D A (W5 k ad (σ)) := hD
  refine lv_if_ne (tgt := 17) hx hb dX5_field_4 (by decide) (fun c3 => ?_) (fun c3 => ?_)
  · have hp := hp.1 c3
    refine lv_aload_n hx hb dX5_field_17 rfl (lv_at hl 0 rfl) ?_
    refine va_get (D := D) (ci := 5) (C := RX5) (T := TX5) (N := 4) hx hb hts hin_X5 hown hK hP 0 rfl rfl 0 (by decide) hf_10 (fun _ h9 => h9) rfl dX5_field_18 ?_
    refine va_get (D := D) (ci := 2) (C := RX2) (T := TX2) (N := 11) hx hb hts hin_X2 hown hK hP 1 rfl rfl 9 (by decide) hf_47 (fun _ h9 => h9) rfl dX5_field_21 ?_
    refine lv_iconst (v := 5) hx hb dX5_field_24 (by decide) ?_
    refine lv_icmp_lt (tgt := 38) hx hb dX5_field_25 (by decide) (fun c4 => ?_) (fun c4 => ?_)
    · have hp := hp.1 c4
      refine lv_aload_n hx hb dX5_field_38 rfl (lv_at hl 0 rfl) ?_
      refine va_get (D := D) (ci := 5) (C := RX5) (T := TX5) (N := 4) hx hb hts hin_X5 hown hK hP 0 rfl rfl 0 (by decide) hf_10 (fun _ h9 => h9) rfl dX5_field_39 ?_
      refine lv_iload_n hx hb dX5_field_42 rfl (lv_at hl 1 rfl) ?_
      refine fw_ciV (As := [.int p1]) (rest := []) hC (c_X2_makeField l D k ad hp) (cwV 1 hts (gA_V A_200 A_201 A_202 A_29 A_80) rfl rfl rfl (by decide +kernel) ⟨Nat.le_of_ble_eq_true rfl, Nat.le_of_ble_eq_true rfl⟩) (va_recv hK hP (ci := 2) (q0 := 1) rfl rfl) rfl hl.1 rfl (Nat.le_of_ble_eq_true rfl) dX5_field_43 ⟨Nat.le_of_ble_eq_true rfl, Nat.le_of_ble_eq_true rfl⟩ hP hD hS Jn.same (fun r5 σ6 H locs hP hD hS hp => ?_)
      have hP : va_P D vwCl (W5 k ad (σ6)) H := hP
      have hD : va_D A (W5 k ad (σ6)) := hD
      refine lv_istore_n (lv' := [(2, .int r5), (0, .ref (ad 0)), (1, .int p1)]) hx hb dX5_field_46 rfl hl (by decide) rfl (fun ls hl => ?_)
      refine lv_aload_n hx hb dX5_field_47 rfl (lv_at hl 1 rfl) ?_
      refine va_get (D := D) (ci := 5) (C := RX5) (T := TX5) (N := 4) hx hb hts hin_X5 hown hK hP 0 rfl rfl 1 (by decide) hf_21 (fun _ h9 => h9) rfl dX5_field_48 ?_
      refine fw_cvV (As := []) (rest := []) hC (c_X4_renew l D k ad hp) (cwV 0 hts (gA_V A_203 A_204 A_205 A_168 A_171) rfl rfl rfl (by decide +kernel) ⟨Nat.le_of_ble_eq_true rfl, Nat.le_of_ble_eq_true rfl⟩) (va_recv hK hP (ci := 4) (q0 := 11) rfl rfl) rfl hl.1 rfl (Nat.le_of_ble_eq_true rfl) dX5_field_51 ⟨Nat.le_of_ble_eq_true rfl, Nat.le_of_ble_eq_true rfl⟩ hP hD hS Jn.same (fun σ8 H locs hP hD hS hp => ?_)
      have hP : va_P D vwCl (W5 k ad (σ8)) H := hP
      have hD : va_D A (W5 k ad (σ8)) := hD
      refine lv_iload_n hx hb dX5_field_54 rfl (lv_at hl 0 rfl) ?_
      exact hret r5 (σ8) _ _ _ _ _ _ dX5_field_55 rfl hP hD hS (Nat.le_of_ble_eq_true rfl) (Nat.le_of_ble_eq_true rfl) hp
    · have hp := hp.2 c4
      exact hp.elim
  · have hp := hp.2 c3
    exact hp.elim
