abbrev rm0_X5_house : Room := { frames := 6, cells := 0, slots := 0, locals := 200 }
set_option maxHeartbeats 4000000 in
set_option maxRecDepth 100000 in
theorem c0_X5_house (l : Launch) (D : va_G) (k ad : Nat → Nat) {sz : Nat} {σ : Mem} {p1 : Int32} {post : Int32 → Mem → Prop} (hp : q_X5_house post (fun _ _ => False) p1 σ) : Met l yX5_house wq_X5_house rm0_X5_house (va_Pc [.ref (ad 0), .int p1] (Pw D k (W5 k ad (σ)) sz)) (va_Qi post (fun u => Bw D (W5 k ad (σ)) sz (W5 k ad u)) (va_A (W5 k ad (σ)) sz)) 0 0 (va_A (W5 k ad (σ)) sz) := by
  refine fw_i (wf := fun u : Mem => W5 k ad u) (by decide) rfl (Nat.le_of_ble_eq_true rfl) ?_
  intro p e s m args below meth c A Q ls hC hP hD hl hret
  obtain ⟨⟨hx, hb, hml, hown, hts⟩, hG, hA⟩ := id hC
  have hK := hG.1
  have hS : va_S A s.heap s.heap [] := va_S.rf
  have hin_X5 : ∀ w ∈ u_ws RX5 TX5 4, w ∈ wq_X5_house := fun w h => List.mem_cons_of_mem _ (iU_X5 w h)
  have hf_10 := hts _ (List.mem_cons_of_mem _ A_183)
  have hin_X2 : ∀ w ∈ u_ws RX2 TX2 11, w ∈ wq_X5_house := fun w h => List.mem_cons_of_mem _ (iU_X2 w h)
  have hf_47 := hts _ (List.mem_cons_of_mem _ A_202)
  have hf_72 := hts _ (List.mem_cons_of_mem _ A_219)
  have hf_21 := hts _ (List.mem_cons_of_mem _ A_186)
  have hin_X4 : ∀ w ∈ u_ws RX4 TX4 7, w ∈ wq_X5_house := fun w h => List.mem_cons_of_mem _ (iU_X4 w h)
  have hf_113 := hts _ (List.mem_cons_of_mem _ A_246)
  have hin_X3 : ∀ w ∈ u_ws RX3 TX3 3, w ∈ wq_X5_house := fun w h => List.mem_cons_of_mem _ (iU_X3 w h)
  have hf_117 := hts _ (List.mem_cons_of_mem _ A_247)
  have hf_28 := hts _ (List.mem_cons_of_mem _ A_189)
  have hin_X1 : ∀ w ∈ u_ws RX1 TX1 4, w ∈ wq_X5_house := fun w h => List.mem_cons_of_mem _ (iU_X1 w h)
  have hf_123 := hts _ (List.mem_cons_of_mem _ A_248)
  have hf_176 := hts _ (List.mem_cons_of_mem _ A_272)
  have hin_X0 : ∀ w ∈ u_ws RX0 TX0 7, w ∈ wq_X5_house := fun w h => List.mem_cons_of_mem _ (iU_X0 w h)
  have hf_233 := hts _ (List.mem_cons_of_mem _ A_294)
  have hf_32 := hts _ (List.mem_cons_of_mem _ A_190)
  have hl : lv_has ls 2 [(0, .ref (ad 0)), (1, .int p1)] := hl
  have hown : s.vm.findClass RX5 = some m.cls := hown
  unfold q_X5_house at hp
  have B_94 : ∀ (s0 : Int32) (σ : Mem) (H : Heap) (locs : List Loc) (ls : Array Slot), va_P D vwCl (W5 k ad (σ)) H → va_D A (W5 k ad (σ)) → va_S A s.heap H locs → lv_has ls 2 [] → (q_X5_house_94 post (fun _ _ => False)) s0 σ → W p l e rm0_X5_house s m args below meth c H locs 0 0 Q (F0 m 94 ls [.int s0]) := by
    intro s0 σ H locs ls hP hD hS hl hp
    unfold q_X5_house_94 at hp
    exact hret s0 (σ) _ _ _ _ _ _ dX5_house_94 rfl hP hD hS (Nat.le_of_ble_eq_true rfl) (Nat.le_of_ble_eq_true rfl) hp
  refine lv_iload_n hx hb dX5_house_0 rfl (lv_at hl 1 rfl) ?_
  rcases sw_in p1 9 (by decide) with c1 | ⟨j2, hj2, ej2⟩
  · have hp := hp.1 c1
    refine lv_tableOut (tgt := 135) hx hb dX5_house_1 (sw_of c1) (by decide) ?_
    exact hp.elim
  · have hp := hp.2
    rcases (show j2 = 0 ∨ j2 = 1 ∨ j2 = 2 ∨ j2 = 3 ∨ j2 = 4 ∨ j2 = 5 ∨ j2 = 6 ∨ j2 = 7 ∨ j2 = 8 by omega) with rfl | rfl | rfl | rfl | rfl | rfl | rfl | rfl | rfl
    · have hp := hp.1 ej2
      refine lv_tableIn (tgt := 52) (off := 51) hx hb dX5_house_1 (by rw [ej2]; decide) (by rw [ej2]; decide) (by rw [ej2]; rfl) (by decide) ?_
      refine lv_aload_n hx hb dX5_house_52 rfl (lv_at hl 0 rfl) ?_
      refine va_get (D := D) (ci := 9) (C := RX5) (T := TX5) (N := 4) hx hb hts hin_X5 hown hK hP 0 rfl rfl 0 (by decide) hf_10 (fun _ h9 => h9) rfl dX5_house_53 ?_
      refine va_get (D := D) (ci := 6) (C := RX2) (T := TX2) (N := 11) hx hb hts hin_X2 hown hK hP 1 rfl rfl 9 (by decide) hf_47 (fun _ h9 => h9) rfl dX5_house_56 ?_
      exact hret ((σ) 1 9) (σ) _ _ _ _ _ _ dX5_house_59 rfl hP hD hS (Nat.le_of_ble_eq_true rfl) (Nat.le_of_ble_eq_true rfl) hp
    · have hp := hp.2.1 ej2
      refine lv_tableIn (tgt := 60) (off := 59) hx hb dX5_house_1 (by rw [ej2]; decide) (by rw [ej2]; decide) (by rw [ej2]; rfl) (by decide) ?_
      refine lv_aload_n hx hb dX5_house_60 rfl (lv_at hl 0 rfl) ?_
      refine va_get (D := D) (ci := 9) (C := RX5) (T := TX5) (N := 4) hx hb hts hin_X5 hown hK hP 0 rfl rfl 0 (by decide) hf_10 (fun _ h9 => h9) rfl dX5_house_61 ?_
      refine va_get (D := D) (ci := 6) (C := RX2) (T := TX2) (N := 11) hx hb hts hin_X2 hown hK hP 1 rfl rfl 10 (by decide) hf_72 (fun _ h9 => h9) rfl dX5_house_64 ?_
      exact hret ((σ) 1 10) (σ) _ _ _ _ _ _ dX5_house_67 rfl hP hD hS (Nat.le_of_ble_eq_true rfl) (Nat.le_of_ble_eq_true rfl) hp
    · have hp := hp.2.2.1 ej2
      refine lv_tableIn (tgt := 68) (off := 67) hx hb dX5_house_1 (by rw [ej2]; decide) (by rw [ej2]; decide) (by rw [ej2]; rfl) (by decide) ?_
      refine lv_aload_n hx hb dX5_house_68 rfl (lv_at hl 0 rfl) ?_
      refine va_get (D := D) (ci := 9) (C := RX5) (T := TX5) (N := 4) hx hb hts hin_X5 hown hK hP 0 rfl rfl 0 (by decide) hf_10 (fun _ h9 => h9) rfl dX5_house_69 ?_
      refine fw_ciV (As := []) (rest := []) hC (c_X2_countingLines l D k ad hp) (cwV 0 hts (gA_V A_295 A_296 A_297 A_29 A_90) rfl rfl rfl (by decide +kernel) ⟨Nat.le_of_ble_eq_true rfl, Nat.le_of_ble_eq_true rfl⟩) (va_recv hK hP (ci := 6) (q0 := 1) rfl rfl) rfl hl.1 rfl (Nat.le_of_ble_eq_true rfl) dX5_house_72 ⟨Nat.le_of_ble_eq_true rfl, Nat.le_of_ble_eq_true rfl⟩ hP hD hS Jn.same (fun r3 σ4 H locs hP hD hS hp => ?_)
      have hP : va_P D vwCl (W5 k ad (σ4)) H := hP
      have hD : va_D A (W5 k ad (σ4)) := hD
      exact hret r3 (σ4) _ _ _ _ _ _ dX5_house_75 rfl hP hD hS (Nat.le_of_ble_eq_true rfl) (Nat.le_of_ble_eq_true rfl) hp
    · have hp := hp.2.2.2.1 ej2
      refine lv_tableIn (tgt := 76) (off := 75) hx hb dX5_house_1 (by rw [ej2]; decide) (by rw [ej2]; decide) (by rw [ej2]; rfl) (by decide) ?_
      refine lv_aload_n hx hb dX5_house_76 rfl (lv_at hl 0 rfl) ?_
      refine va_get (D := D) (ci := 9) (C := RX5) (T := TX5) (N := 4) hx hb hts hin_X5 hown hK hP 0 rfl rfl 1 (by decide) hf_21 (fun _ h9 => h9) rfl dX5_house_77 ?_
      refine va_get (D := D) (ci := 8) (C := RX4) (T := TX4) (N := 7) hx hb hts hin_X4 hown hK hP 11 rfl rfl 1 (by decide) hf_113 (fun _ h9 => h9) rfl dX5_house_80 ?_
      refine va_get (D := D) (ci := 7) (C := RX3) (T := TX3) (N := 3) hx hb hts hin_X3 hown hK hP 12 rfl rfl 2 (by decide) hf_117 (fun _ h9 => h9) rfl dX5_house_83 ?_
      refine lv_if_eq (tgt := 93) hx hb dX5_house_86 (by decide) (fun c5 => ?_) (fun c5 => ?_)
      · have hp := hp.1 c5
        refine lv_iconst (v := 0) hx hb dX5_house_93 (by decide) ?_
        exact B_94 0 (σ) _ _ _  hP hD hS (lv_sub hl [] rfl) hp
      · have hp := hp.2 c5
        refine lv_iconst (v := 1) hx hb dX5_house_89 (by decide) ?_
        refine lv_goto (tgt := 94) hx hb dX5_house_90 (by decide) ?_
        exact B_94 1 (σ) _ _ _  hP hD hS (lv_sub hl [] rfl) hp
    · have hp := hp.2.2.2.2.1 ej2
      refine lv_tableIn (tgt := 95) (off := 94) hx hb dX5_house_1 (by rw [ej2]; decide) (by rw [ej2]; decide) (by rw [ej2]; rfl) (by decide) ?_
      refine lv_aload_n hx hb dX5_house_95 rfl (lv_at hl 0 rfl) ?_
      refine va_get (D := D) (ci := 9) (C := RX5) (T := TX5) (N := 4) hx hb hts hin_X5 hown hK hP 0 rfl rfl 1 (by decide) hf_21 (fun _ h9 => h9) rfl dX5_house_96 ?_
      refine fw_ciV (As := []) (rest := []) hC (c_X4_settledFields l D k ad hp) (cwV 0 hts (gA_V A_298 A_299 A_300 A_173 A_177) rfl rfl rfl (by decide +kernel) ⟨Nat.le_of_ble_eq_true rfl, Nat.le_of_ble_eq_true rfl⟩) (va_recv hK hP (ci := 8) (q0 := 11) rfl rfl) rfl hl.1 rfl (Nat.le_of_ble_eq_true rfl) dX5_house_99 ⟨Nat.le_of_ble_eq_true rfl, Nat.le_of_ble_eq_true rfl⟩ hP hD hS Jn.same (fun r6 σ7 H locs hP hD hS hp => ?_)
      have hP : va_P D vwCl (W5 k ad (σ7)) H := hP
      have hD : va_D A (W5 k ad (σ7)) := hD
      exact hret r6 (σ7) _ _ _ _ _ _ dX5_house_102 rfl hP hD hS (Nat.le_of_ble_eq_true rfl) (Nat.le_of_ble_eq_true rfl) hp
    · have hp := hp.2.2.2.2.2.1 ej2
      refine lv_tableIn (tgt := 103) (off := 102) hx hb dX5_house_1 (by rw [ej2]; decide) (by rw [ej2]; decide) (by rw [ej2]; rfl) (by decide) ?_
      refine lv_aload_n hx hb dX5_house_103 rfl (lv_at hl 0 rfl) ?_
      refine va_get (D := D) (ci := 9) (C := RX5) (T := TX5) (N := 4) hx hb hts hin_X5 hown hK hP 0 rfl rfl 2 (by decide) hf_28 (fun _ h9 => h9) rfl dX5_house_104 ?_
      refine va_get (D := D) (ci := 5) (C := RX1) (T := TX1) (N := 4) hx hb hts hin_X1 hown hK hP 23 rfl rfl 3 (by decide) hf_123 (fun _ h9 => h9) rfl dX5_house_107 ?_
      exact hret ((σ) 23 3) (σ) _ _ _ _ _ _ dX5_house_110 rfl hP hD hS (Nat.le_of_ble_eq_true rfl) (Nat.le_of_ble_eq_true rfl) hp
    · have hp := hp.2.2.2.2.2.2.1 ej2
      refine lv_tableIn (tgt := 111) (off := 110) hx hb dX5_house_1 (by rw [ej2]; decide) (by rw [ej2]; decide) (by rw [ej2]; rfl) (by decide) ?_
      refine lv_aload_n hx hb dX5_house_111 rfl (lv_at hl 0 rfl) ?_
      refine va_get (D := D) (ci := 9) (C := RX5) (T := TX5) (N := 4) hx hb hts hin_X5 hown hK hP 0 rfl rfl 2 (by decide) hf_28 (fun _ h9 => h9) rfl dX5_house_112 ?_
      refine fw_ciV (As := []) (rest := []) hC (c_X1_driftingMachines l D k ad hp) (cwV 0 hts (gA_V A_301 A_302 A_303 A_68 A_73) rfl rfl rfl (by decide +kernel) ⟨Nat.le_of_ble_eq_true rfl, Nat.le_of_ble_eq_true rfl⟩) (va_recv hK hP (ci := 5) (q0 := 23) rfl rfl) rfl hl.1 rfl (Nat.le_of_ble_eq_true rfl) dX5_house_115 ⟨Nat.le_of_ble_eq_true rfl, Nat.le_of_ble_eq_true rfl⟩ hP hD hS Jn.same (fun r8 σ9 H locs hP hD hS hp => ?_)
      have hP : va_P D vwCl (W5 k ad (σ9)) H := hP
      have hD : va_D A (W5 k ad (σ9)) := hD
      exact hret r8 (σ9) _ _ _ _ _ _ dX5_house_118 rfl hP hD hS (Nat.le_of_ble_eq_true rfl) (Nat.le_of_ble_eq_true rfl) hp
    · have hp := hp.2.2.2.2.2.2.2.1 ej2
      refine lv_tableIn (tgt := 119) (off := 118) hx hb dX5_house_1 (by rw [ej2]; decide) (by rw [ej2]; decide) (by rw [ej2]; rfl) (by decide) ?_
      refine lv_aload_n hx hb dX5_house_119 rfl (lv_at hl 0 rfl) ?_
      refine va_get (D := D) (ci := 9) (C := RX5) (T := TX5) (N := 4) hx hb hts hin_X5 hown hK hP 0 rfl rfl 1 (by decide) hf_21 (fun _ h9 => h9) rfl dX5_house_120 ?_
      refine va_get (D := D) (ci := 8) (C := RX4) (T := TX4) (N := 7) hx hb hts hin_X4 hown hK hP 11 rfl rfl 4 (by decide) hf_176 (fun _ h9 => h9) rfl dX5_house_123 ?_
      refine va_get (D := D) (ci := 4) (C := RX0) (T := TX0) (N := 7) hx hb hts hin_X0 hown hK hP 18 rfl rfl 4 (by decide) hf_233 (fun _ h9 => h9) rfl dX5_house_126 ?_
      exact hret ((σ) 18 4) (σ) _ _ _ _ _ _ dX5_house_129 rfl hP hD hS (Nat.le_of_ble_eq_true rfl) (Nat.le_of_ble_eq_true rfl) hp
    · have hp := hp.2.2.2.2.2.2.2.2 ej2
      refine lv_tableIn (tgt := 130) (off := 129) hx hb dX5_house_1 (by rw [ej2]; decide) (by rw [ej2]; decide) (by rw [ej2]; rfl) (by decide) ?_
      refine lv_aload_n hx hb dX5_house_130 rfl (lv_at hl 0 rfl) ?_
      refine va_get (D := D) (ci := 9) (C := RX5) (T := TX5) (N := 4) hx hb hts hin_X5 hown hK hP 0 rfl rfl 3 (by decide) hf_32 (fun _ h9 => h9) rfl dX5_house_131 ?_
      exact hret ((σ) 0 3) (σ) _ _ _ _ _ _ dX5_house_134 rfl hP hD hS (Nat.le_of_ble_eq_true rfl) (Nat.le_of_ble_eq_true rfl) hp
abbrev rm0_X5_ofField : Room := { frames := 6, cells := 0, slots := 0, locals := 200 }
set_option maxHeartbeats 4000000 in
set_option maxRecDepth 100000 in
theorem c0_X5_ofField (l : Launch) (D : va_G) (k ad : Nat → Nat) {sz : Nat} {σ : Mem} {p1 : Int32} {p2 : Int32} {post : Int32 → Mem → Prop} (hp : q_X5_ofField post (fun _ _ => False) p1 p2 σ) : Met l yX5_ofField wq_X5_ofField rm0_X5_ofField (va_Pc [.ref (ad 0), .int p1, .int p2] (Pw D k (W5 k ad (σ)) sz)) (va_Qi post (fun u => Bw D (W5 k ad (σ)) sz (W5 k ad u)) (va_A (W5 k ad (σ)) sz)) 0 0 (va_A (W5 k ad (σ)) sz) := by
  refine fw_i (wf := fun u : Mem => W5 k ad u) (by decide) rfl (Nat.le_of_ble_eq_true rfl) ?_
  intro p e s m args below meth c A Q ls hC hP hD hl hret
  obtain ⟨⟨hx, hb, hml, hown, hts⟩, hG, hA⟩ := id hC
  have hK := hG.1
  have hS : va_S A s.heap s.heap [] := va_S.rf
  have hin_X5 : ∀ w ∈ u_ws RX5 TX5 4, w ∈ wq_X5_ofField := fun w h => List.mem_cons_of_mem _ (iU_X5 w h)
  have hf_10 := hts _ (List.mem_cons_of_mem _ A_183)
  have hin_X2 : ∀ w ∈ u_ws RX2 TX2 11, w ∈ wq_X5_ofField := fun w h => List.mem_cons_of_mem _ (iU_X2 w h)
  have hf_165 := hts _ (List.mem_cons_of_mem _ A_267)
  have hf_21 := hts _ (List.mem_cons_of_mem _ A_186)
  have hin_X4 : ∀ w ∈ u_ws RX4 TX4 7, w ∈ wq_X5_ofField := fun w h => List.mem_cons_of_mem _ (iU_X4 w h)
  have hf_113 := hts _ (List.mem_cons_of_mem _ A_246)
  have hin_X3 : ∀ w ∈ u_ws RX3 TX3 3, w ∈ wq_X5_ofField := fun w h => List.mem_cons_of_mem _ (iU_X3 w h)
  have hf_168 := hts _ (List.mem_cons_of_mem _ A_271)
  have hf_128 := hts _ (List.mem_cons_of_mem _ A_249)
  have hf_109 := hts _ (List.mem_cons_of_mem _ A_243)
  have hf_176 := hts _ (List.mem_cons_of_mem _ A_272)
  have hin_X0 : ∀ w ∈ u_ws RX0 TX0 7, w ∈ wq_X5_ofField := fun w h => List.mem_cons_of_mem _ (iU_X0 w h)
  have hf_180 := hts _ (List.mem_cons_of_mem _ A_273)
  have hf_28 := hts _ (List.mem_cons_of_mem _ A_189)
  have hl : lv_has ls 3 [(0, .ref (ad 0)), (1, .int p1), (2, .int p2)] := hl
  have hown : s.vm.findClass RX5 = some m.cls := hown
  unfold q_X5_ofField at hp
  refine lv_aload_n hx hb dX5_ofField_0 rfl (lv_at hl 0 rfl) ?_
  refine lv_iload_n hx hb dX5_ofField_1 rfl (lv_at hl 1 rfl) ?_
  refine fw_ciV (As := [.int p1]) (rest := []) hC (c_X5_isField l D k ad hp) (cwV 1 hts (gA_V A_220 A_221 A_222 A_25 A_212) rfl rfl rfl (by decide +kernel) ⟨Nat.le_of_ble_eq_true rfl, Nat.le_of_ble_eq_true rfl⟩) (va_recv hK hP (ci := 9) (q0 := 0) rfl rfl) rfl hl.1 rfl (Nat.le_of_ble_eq_true rfl) dX5_ofField_2 ⟨Nat.le_of_ble_eq_true rfl, Nat.le_of_ble_eq_true rfl⟩ hP hD hS Jn.same (fun r1 σ2 H locs hP hD hS hp => ?_)
  have hP : va_P D vwCl (W5 k ad (σ2)) H := hP
  have hD : va_D A (W5 k ad (σ2)) := hD
  refine lv_if_ne (tgt := 18) hx hb dX5_ofField_5 (by decide) (fun c3 => ?_) (fun c3 => ?_)
  · have hp := hp.1 c3
    refine lv_iload_n hx hb dX5_ofField_18 rfl (lv_at hl 2 rfl) ?_
    rcases sw_in p2 7 (by decide) with c4 | ⟨j5, hj5, ej5⟩
    · have hp := hp.1 c4
      refine lv_tableOut (tgt := 141) hx hb dX5_ofField_19 (sw_of c4) (by decide) ?_
      exact hp.elim
    · have hp := hp.2
      rcases (show j5 = 0 ∨ j5 = 1 ∨ j5 = 2 ∨ j5 = 3 ∨ j5 = 4 ∨ j5 = 5 ∨ j5 = 6 by omega) with rfl | rfl | rfl | rfl | rfl | rfl | rfl
      · have hp := hp.1 ej5
        refine lv_tableIn (tgt := 60) (off := 41) hx hb dX5_ofField_19 (by rw [ej5]; decide) (by rw [ej5]; decide) (by rw [ej5]; rfl) (by decide) ?_
        refine lv_aload_n hx hb dX5_ofField_60 rfl (lv_at hl 0 rfl) ?_
        refine va_get (D := D) (ci := 9) (C := RX5) (T := TX5) (N := 4) hx hb hts hin_X5 hown hK hP 0 rfl rfl 0 (by decide) hf_10 (fun _ h9 => h9) rfl dX5_ofField_61 ?_
        refine va_get (D := D) (ci := 6) (C := RX2) (T := TX2) (N := 11) hx hb hts hin_X2 hown hK hP 1 rfl rfl 0 (by decide) hf_165 (fun _ h9 => h9) rfl dX5_ofField_64 ?_
        refine lv_iload_n hx hb dX5_ofField_67 rfl (lv_at hl 1 rfl) ?_
        obtain ⟨h6, hp⟩ := hp
        refine va_iald hx hb hK hP 2 0 rfl rfl h6 dX5_ofField_68 ?_
        exact hret ((σ2) 2 p1.toNatClampNeg) (σ2) _ _ _ _ _ _ dX5_ofField_69 rfl hP hD hS (Nat.le_of_ble_eq_true rfl) (Nat.le_of_ble_eq_true rfl) hp
      · have hp := hp.2.1 ej5
        refine lv_tableIn (tgt := 70) (off := 51) hx hb dX5_ofField_19 (by rw [ej5]; decide) (by rw [ej5]; decide) (by rw [ej5]; rfl) (by decide) ?_
        refine lv_aload_n hx hb dX5_ofField_70 rfl (lv_at hl 0 rfl) ?_
        refine va_get (D := D) (ci := 9) (C := RX5) (T := TX5) (N := 4) hx hb hts hin_X5 hown hK hP 0 rfl rfl 1 (by decide) hf_21 (fun _ h9 => h9) rfl dX5_ofField_71 ?_
        refine va_get (D := D) (ci := 8) (C := RX4) (T := TX4) (N := 7) hx hb hts hin_X4 hown hK hP 11 rfl rfl 1 (by decide) hf_113 (fun _ h9 => h9) rfl dX5_ofField_74 ?_
        refine va_get (D := D) (ci := 7) (C := RX3) (T := TX3) (N := 3) hx hb hts hin_X3 hown hK hP 12 rfl rfl 1 (by decide) hf_168 (fun _ h9 => h9) rfl dX5_ofField_77 ?_
        refine lv_iload_n hx hb dX5_ofField_80 rfl (lv_at hl 1 rfl) ?_
        obtain ⟨h7, hp⟩ := hp
        refine va_iald hx hb hK hP 13 0 rfl rfl h7 dX5_ofField_81 ?_
        exact hret ((σ2) 13 p1.toNatClampNeg) (σ2) _ _ _ _ _ _ dX5_ofField_82 rfl hP hD hS (Nat.le_of_ble_eq_true rfl) (Nat.le_of_ble_eq_true rfl) hp
      · have hp := hp.2.2.1 ej5
        refine lv_tableIn (tgt := 83) (off := 64) hx hb dX5_ofField_19 (by rw [ej5]; decide) (by rw [ej5]; decide) (by rw [ej5]; rfl) (by decide) ?_
        refine lv_aload_n hx hb dX5_ofField_83 rfl (lv_at hl 0 rfl) ?_
        refine va_get (D := D) (ci := 9) (C := RX5) (T := TX5) (N := 4) hx hb hts hin_X5 hown hK hP 0 rfl rfl 1 (by decide) hf_21 (fun _ h9 => h9) rfl dX5_ofField_84 ?_
        refine va_get (D := D) (ci := 8) (C := RX4) (T := TX4) (N := 7) hx hb hts hin_X4 hown hK hP 11 rfl rfl 1 (by decide) hf_113 (fun _ h9 => h9) rfl dX5_ofField_87 ?_
        refine va_get (D := D) (ci := 7) (C := RX3) (T := TX3) (N := 3) hx hb hts hin_X3 hown hK hP 12 rfl rfl 1 (by decide) hf_168 (fun _ h9 => h9) rfl dX5_ofField_90 ?_
        refine lv_iload_n hx hb dX5_ofField_93 rfl (lv_at hl 1 rfl) ?_
        obtain ⟨h8, hp⟩ := hp
        refine va_iald hx hb hK hP 13 0 rfl rfl h8 dX5_ofField_94 ?_
        refine fw_ciS (As := [.int ((σ2) 13 p1.toNatClampNeg)]) (rest := []) hC (c_J6_bitCount_0f7a4 l D k hp) (va_cwS 1 hts (gA_S A_274 A_149 A_150 A_141) rfl rfl rfl (by decide +kernel) ⟨Nat.le_of_ble_eq_true rfl, Nat.le_of_ble_eq_true rfl⟩) rfl hl.1 rfl (Nat.le_of_ble_eq_true rfl) dX5_ofField_95 ⟨Nat.le_of_ble_eq_true rfl, Nat.le_of_ble_eq_true rfl⟩ P_nil D_nil hS (Jn.pure (w0 := fun _ : Mem => []) hP hD) (fun r9 σ10 H locs hP hD hS hp => ?_)
        have hP : va_P D vwCl (W5 k ad (σ2)) H := hP
        have hD : va_D A (W5 k ad (σ2)) := hD
        exact hret r9 (σ2) _ _ _ _ _ _ dX5_ofField_98 rfl hP hD hS (Nat.le_of_ble_eq_true rfl) (Nat.le_of_ble_eq_true rfl) hp
      · have hp := hp.2.2.2.1 ej5
        refine lv_tableIn (tgt := 99) (off := 80) hx hb dX5_ofField_19 (by rw [ej5]; decide) (by rw [ej5]; decide) (by rw [ej5]; rfl) (by decide) ?_
        refine lv_aload_n hx hb dX5_ofField_99 rfl (lv_at hl 0 rfl) ?_
        refine va_get (D := D) (ci := 9) (C := RX5) (T := TX5) (N := 4) hx hb hts hin_X5 hown hK hP 0 rfl rfl 1 (by decide) hf_21 (fun _ h9 => h9) rfl dX5_ofField_100 ?_
        refine va_get (D := D) (ci := 8) (C := RX4) (T := TX4) (N := 7) hx hb hts hin_X4 hown hK hP 11 rfl rfl 5 (by decide) hf_128 (fun _ h9 => h9) rfl dX5_ofField_103 ?_
        refine lv_iload_n hx hb dX5_ofField_106 rfl (lv_at hl 1 rfl) ?_
        obtain ⟨h11, hp⟩ := hp
        refine va_iald hx hb hK hP 22 0 rfl rfl h11 dX5_ofField_107 ?_
        exact hret ((σ2) 22 p1.toNatClampNeg) (σ2) _ _ _ _ _ _ dX5_ofField_108 rfl hP hD hS (Nat.le_of_ble_eq_true rfl) (Nat.le_of_ble_eq_true rfl) hp
      · have hp := hp.2.2.2.2.1 ej5
        refine lv_tableIn (tgt := 109) (off := 90) hx hb dX5_ofField_19 (by rw [ej5]; decide) (by rw [ej5]; decide) (by rw [ej5]; rfl) (by decide) ?_
        refine lv_aload_n hx hb dX5_ofField_109 rfl (lv_at hl 0 rfl) ?_
        refine va_get (D := D) (ci := 9) (C := RX5) (T := TX5) (N := 4) hx hb hts hin_X5 hown hK hP 0 rfl rfl 0 (by decide) hf_10 (fun _ h9 => h9) rfl dX5_ofField_110 ?_
        refine va_get (D := D) (ci := 6) (C := RX2) (T := TX2) (N := 11) hx hb hts hin_X2 hown hK hP 1 rfl rfl 1 (by decide) hf_109 (fun _ h9 => h9) rfl dX5_ofField_113 ?_
        refine lv_iload_n hx hb dX5_ofField_116 rfl (lv_at hl 1 rfl) ?_
        obtain ⟨h12, hp⟩ := hp
        refine va_iald hx hb hK hP 3 0 rfl rfl h12 dX5_ofField_117 ?_
        exact hret ((σ2) 3 p1.toNatClampNeg) (σ2) _ _ _ _ _ _ dX5_ofField_118 rfl hP hD hS (Nat.le_of_ble_eq_true rfl) (Nat.le_of_ble_eq_true rfl) hp
      · have hp := hp.2.2.2.2.2.1 ej5
        refine lv_tableIn (tgt := 119) (off := 100) hx hb dX5_ofField_19 (by rw [ej5]; decide) (by rw [ej5]; decide) (by rw [ej5]; rfl) (by decide) ?_
        refine lv_aload_n hx hb dX5_ofField_119 rfl (lv_at hl 0 rfl) ?_
        refine va_get (D := D) (ci := 9) (C := RX5) (T := TX5) (N := 4) hx hb hts hin_X5 hown hK hP 0 rfl rfl 1 (by decide) hf_21 (fun _ h9 => h9) rfl dX5_ofField_120 ?_
        refine va_get (D := D) (ci := 8) (C := RX4) (T := TX4) (N := 7) hx hb hts hin_X4 hown hK hP 11 rfl rfl 4 (by decide) hf_176 (fun _ h9 => h9) rfl dX5_ofField_123 ?_
        refine va_get (D := D) (ci := 4) (C := RX0) (T := TX0) (N := 7) hx hb hts hin_X0 hown hK hP 18 rfl rfl 3 (by decide) hf_180 (fun _ h9 => h9) rfl dX5_ofField_126 ?_
        refine lv_iload_n hx hb dX5_ofField_129 rfl (lv_at hl 1 rfl) ?_
        obtain ⟨h13, hp⟩ := hp
        refine va_iald hx hb hK hP 21 0 rfl rfl h13 dX5_ofField_130 ?_
        exact hret ((σ2) 21 p1.toNatClampNeg) (σ2) _ _ _ _ _ _ dX5_ofField_131 rfl hP hD hS (Nat.le_of_ble_eq_true rfl) (Nat.le_of_ble_eq_true rfl) hp
      · have hp := hp.2.2.2.2.2.2 ej5
        refine lv_tableIn (tgt := 132) (off := 113) hx hb dX5_ofField_19 (by rw [ej5]; decide) (by rw [ej5]; decide) (by rw [ej5]; rfl) (by decide) ?_
        refine lv_aload_n hx hb dX5_ofField_132 rfl (lv_at hl 0 rfl) ?_
        refine va_get (D := D) (ci := 9) (C := RX5) (T := TX5) (N := 4) hx hb hts hin_X5 hown hK hP 0 rfl rfl 2 (by decide) hf_28 (fun _ h9 => h9) rfl dX5_ofField_133 ?_
        refine lv_iload_n hx hb dX5_ofField_136 rfl (lv_at hl 1 rfl) ?_
        refine fw_ciV (As := [.int p1]) (rest := []) hC (c_X1_find l D k ad hp) (cwV 1 hts (gA_V A_275 A_276 A_277 A_68 A_74) rfl rfl rfl (by decide +kernel) ⟨Nat.le_of_ble_eq_true rfl, Nat.le_of_ble_eq_true rfl⟩) (va_recv hK hP (ci := 5) (q0 := 23) rfl rfl) rfl hl.1 rfl (Nat.le_of_ble_eq_true rfl) dX5_ofField_137 ⟨Nat.le_of_ble_eq_true rfl, Nat.le_of_ble_eq_true rfl⟩ hP hD hS Jn.same (fun r14 σ15 H locs hP hD hS hp => ?_)
        have hP : va_P D vwCl (W5 k ad (σ15)) H := hP
        have hD : va_D A (W5 k ad (σ15)) := hD
        exact hret r14 (σ15) _ _ _ _ _ _ dX5_ofField_140 rfl hP hD hS (Nat.le_of_ble_eq_true rfl) (Nat.le_of_ble_eq_true rfl) hp
  · have hp := hp.2 c3
    exact hp.elim
abbrev rm0_X5_ofLine : Room := { frames := 6, cells := 0, slots := 0, locals := 200 }
set_option maxHeartbeats 4000000 in
set_option maxRecDepth 100000 in
theorem c0_X5_ofLine (l : Launch) (D : va_G) (k ad : Nat → Nat) {sz : Nat} {σ : Mem} {p1 : Int32} {p2 : Int32} {post : Int32 → Mem → Prop} (hp : q_X5_ofLine post (fun _ _ => False) p1 p2 σ) : Met l yX5_ofLine wq_X5_ofLine rm0_X5_ofLine (va_Pc [.ref (ad 0), .int p1, .int p2] (Pw D k (W5 k ad (σ)) sz)) (va_Qi post (fun u => Bw D (W5 k ad (σ)) sz (W5 k ad u)) (va_A (W5 k ad (σ)) sz)) 0 0 (va_A (W5 k ad (σ)) sz) := by
  refine fw_i (wf := fun u : Mem => W5 k ad u) (by decide) rfl (Nat.le_of_ble_eq_true rfl) ?_
  intro p e s m args below meth c A Q ls hC hP hD hl hret
  obtain ⟨⟨hx, hb, hml, hown, hts⟩, hG, hA⟩ := id hC
  have hK := hG.1
  have hS : va_S A s.heap s.heap [] := va_S.rf
  have hin_X5 : ∀ w ∈ u_ws RX5 TX5 4, w ∈ wq_X5_ofLine := fun w h => List.mem_cons_of_mem _ (iU_X5 w h)
  have hf_10 := hts _ (List.mem_cons_of_mem _ A_183)
  have hin_X2 : ∀ w ∈ u_ws RX2 TX2 11, w ∈ wq_X5_ofLine := fun w h => List.mem_cons_of_mem _ (iU_X2 w h)
  have hf_190 := hts _ (List.mem_cons_of_mem _ A_279)
  have hf_193 := hts _ (List.mem_cons_of_mem _ A_280)
  have hf_196 := hts _ (List.mem_cons_of_mem _ A_281)
  have hf_199 := hts _ (List.mem_cons_of_mem _ A_282)
  have hf_202 := hts _ (List.mem_cons_of_mem _ A_283)
  have hf_21 := hts _ (List.mem_cons_of_mem _ A_186)
  have hl : lv_has ls 3 [(0, .ref (ad 0)), (1, .int p1), (2, .int p2)] := hl
  have hown : s.vm.findClass RX5 = some m.cls := hown
  unfold q_X5_ofLine at hp
  have B_147 : ∀ (s0 : Int32) (σ : Mem) (H : Heap) (locs : List Loc) (ls : Array Slot), va_P D vwCl (W5 k ad (σ)) H → va_D A (W5 k ad (σ)) → va_S A s.heap H locs → lv_has ls 3 [] → (q_X5_ofLine_147 post (fun _ _ => False)) s0 σ → W p l e rm0_X5_ofLine s m args below meth c H locs 0 0 Q (F0 m 147 ls [.int s0]) := by
    intro s0 σ H locs ls hP hD hS hl hp
    unfold q_X5_ofLine_147 at hp
    exact hret s0 (σ) _ _ _ _ _ _ dX5_ofLine_147 rfl hP hD hS (Nat.le_of_ble_eq_true rfl) (Nat.le_of_ble_eq_true rfl) hp
  have B_126 : ∀ (s0 : Int32) (σ : Mem) (H : Heap) (locs : List Loc) (ls : Array Slot), va_P D vwCl (W5 k ad (σ)) H → va_D A (W5 k ad (σ)) → va_S A s.heap H locs → lv_has ls 3 [] → (q_X5_ofLine_126 post (fun _ _ => False)) s0 σ → W p l e rm0_X5_ofLine s m args below meth c H locs 0 0 Q (F0 m 126 ls [.int s0]) := by
    intro s0 σ H locs ls hP hD hS hl hp
    unfold q_X5_ofLine_126 at hp
    exact hret s0 (σ) _ _ _ _ _ _ dX5_ofLine_126 rfl hP hD hS (Nat.le_of_ble_eq_true rfl) (Nat.le_of_ble_eq_true rfl) hp
  refine lv_aload_n hx hb dX5_ofLine_0 rfl (lv_at hl 0 rfl) ?_
  refine lv_iload_n hx hb dX5_ofLine_1 rfl (lv_at hl 1 rfl) ?_
  refine fw_ciV (As := [.int p1]) (rest := []) hC (c_X5_isLine l D k ad hp) (cwV 1 hts (gA_V A_236 A_237 A_238 A_25 A_234) rfl rfl rfl (by decide +kernel) ⟨Nat.le_of_ble_eq_true rfl, Nat.le_of_ble_eq_true rfl⟩) (va_recv hK hP (ci := 9) (q0 := 0) rfl rfl) rfl hl.1 rfl (Nat.le_of_ble_eq_true rfl) dX5_ofLine_2 ⟨Nat.le_of_ble_eq_true rfl, Nat.le_of_ble_eq_true rfl⟩ hP hD hS Jn.same (fun r1 σ2 H locs hP hD hS hp => ?_)
  have hP : va_P D vwCl (W5 k ad (σ2)) H := hP
  have hD : va_D A (W5 k ad (σ2)) := hD
  refine lv_if_ne (tgt := 18) hx hb dX5_ofLine_5 (by decide) (fun c3 => ?_) (fun c3 => ?_)
  · have hp := hp.1 c3
    refine lv_iload_n hx hb dX5_ofLine_18 rfl (lv_at hl 2 rfl) ?_
    rcases sw_in p2 7 (by decide) with c4 | ⟨j5, hj5, ej5⟩
    · have hp := hp.1 c4
      refine lv_tableOut (tgt := 148) hx hb dX5_ofLine_19 (sw_of c4) (by decide) ?_
      exact hp.elim
    · have hp := hp.2
      rcases (show j5 = 0 ∨ j5 = 1 ∨ j5 = 2 ∨ j5 = 3 ∨ j5 = 4 ∨ j5 = 5 ∨ j5 = 6 by omega) with rfl | rfl | rfl | rfl | rfl | rfl | rfl
      · have hp := hp.1 ej5
        refine lv_tableIn (tgt := 60) (off := 41) hx hb dX5_ofLine_19 (by rw [ej5]; decide) (by rw [ej5]; decide) (by rw [ej5]; rfl) (by decide) ?_
        refine lv_aload_n hx hb dX5_ofLine_60 rfl (lv_at hl 0 rfl) ?_
        refine va_get (D := D) (ci := 9) (C := RX5) (T := TX5) (N := 4) hx hb hts hin_X5 hown hK hP 0 rfl rfl 0 (by decide) hf_10 (fun _ h9 => h9) rfl dX5_ofLine_61 ?_
        refine va_get (D := D) (ci := 6) (C := RX2) (T := TX2) (N := 11) hx hb hts hin_X2 hown hK hP 1 rfl rfl 2 (by decide) hf_190 (fun _ h9 => h9) rfl dX5_ofLine_64 ?_
        refine lv_iload_n hx hb dX5_ofLine_67 rfl (lv_at hl 1 rfl) ?_
        obtain ⟨h6, hp⟩ := hp
        refine va_iald hx hb hK hP 4 0 rfl rfl h6 dX5_ofLine_68 ?_
        exact hret ((σ2) 4 p1.toNatClampNeg) (σ2) _ _ _ _ _ _ dX5_ofLine_69 rfl hP hD hS (Nat.le_of_ble_eq_true rfl) (Nat.le_of_ble_eq_true rfl) hp
      · have hp := hp.2.1 ej5
        refine lv_tableIn (tgt := 70) (off := 51) hx hb dX5_ofLine_19 (by rw [ej5]; decide) (by rw [ej5]; decide) (by rw [ej5]; rfl) (by decide) ?_
        refine lv_aload_n hx hb dX5_ofLine_70 rfl (lv_at hl 0 rfl) ?_
        refine va_get (D := D) (ci := 9) (C := RX5) (T := TX5) (N := 4) hx hb hts hin_X5 hown hK hP 0 rfl rfl 0 (by decide) hf_10 (fun _ h9 => h9) rfl dX5_ofLine_71 ?_
        refine va_get (D := D) (ci := 6) (C := RX2) (T := TX2) (N := 11) hx hb hts hin_X2 hown hK hP 1 rfl rfl 3 (by decide) hf_193 (fun _ h9 => h9) rfl dX5_ofLine_74 ?_
        refine lv_iload_n hx hb dX5_ofLine_77 rfl (lv_at hl 1 rfl) ?_
        obtain ⟨h7, hp⟩ := hp
        refine va_iald hx hb hK hP 5 0 rfl rfl h7 dX5_ofLine_78 ?_
        exact hret ((σ2) 5 p1.toNatClampNeg) (σ2) _ _ _ _ _ _ dX5_ofLine_79 rfl hP hD hS (Nat.le_of_ble_eq_true rfl) (Nat.le_of_ble_eq_true rfl) hp
      · have hp := hp.2.2.1 ej5
        refine lv_tableIn (tgt := 80) (off := 61) hx hb dX5_ofLine_19 (by rw [ej5]; decide) (by rw [ej5]; decide) (by rw [ej5]; rfl) (by decide) ?_
        refine lv_aload_n hx hb dX5_ofLine_80 rfl (lv_at hl 0 rfl) ?_
        refine va_get (D := D) (ci := 9) (C := RX5) (T := TX5) (N := 4) hx hb hts hin_X5 hown hK hP 0 rfl rfl 0 (by decide) hf_10 (fun _ h9 => h9) rfl dX5_ofLine_81 ?_
        refine va_get (D := D) (ci := 6) (C := RX2) (T := TX2) (N := 11) hx hb hts hin_X2 hown hK hP 1 rfl rfl 4 (by decide) hf_196 (fun _ h9 => h9) rfl dX5_ofLine_84 ?_
        refine lv_iload_n hx hb dX5_ofLine_87 rfl (lv_at hl 1 rfl) ?_
        obtain ⟨h8, hp⟩ := hp
        refine va_iald hx hb hK hP 6 0 rfl rfl h8 dX5_ofLine_88 ?_
        exact hret ((σ2) 6 p1.toNatClampNeg) (σ2) _ _ _ _ _ _ dX5_ofLine_89 rfl hP hD hS (Nat.le_of_ble_eq_true rfl) (Nat.le_of_ble_eq_true rfl) hp
      · have hp := hp.2.2.2.1 ej5
        refine lv_tableIn (tgt := 90) (off := 71) hx hb dX5_ofLine_19 (by rw [ej5]; decide) (by rw [ej5]; decide) (by rw [ej5]; rfl) (by decide) ?_
        refine lv_aload_n hx hb dX5_ofLine_90 rfl (lv_at hl 0 rfl) ?_
        refine va_get (D := D) (ci := 9) (C := RX5) (T := TX5) (N := 4) hx hb hts hin_X5 hown hK hP 0 rfl rfl 0 (by decide) hf_10 (fun _ h9 => h9) rfl dX5_ofLine_91 ?_
        refine va_get (D := D) (ci := 6) (C := RX2) (T := TX2) (N := 11) hx hb hts hin_X2 hown hK hP 1 rfl rfl 5 (by decide) hf_199 (fun _ h9 => h9) rfl dX5_ofLine_94 ?_
        refine lv_iload_n hx hb dX5_ofLine_97 rfl (lv_at hl 1 rfl) ?_
        obtain ⟨h9, hp⟩ := hp
        refine va_iald hx hb hK hP 7 0 rfl rfl h9 dX5_ofLine_98 ?_
        exact hret ((σ2) 7 p1.toNatClampNeg) (σ2) _ _ _ _ _ _ dX5_ofLine_99 rfl hP hD hS (Nat.le_of_ble_eq_true rfl) (Nat.le_of_ble_eq_true rfl) hp
      · have hp := hp.2.2.2.2.1 ej5
        refine lv_tableIn (tgt := 100) (off := 81) hx hb dX5_ofLine_19 (by rw [ej5]; decide) (by rw [ej5]; decide) (by rw [ej5]; rfl) (by decide) ?_
        refine lv_aload_n hx hb dX5_ofLine_100 rfl (lv_at hl 0 rfl) ?_
        refine va_get (D := D) (ci := 9) (C := RX5) (T := TX5) (N := 4) hx hb hts hin_X5 hown hK hP 0 rfl rfl 0 (by decide) hf_10 (fun _ h9 => h9) rfl dX5_ofLine_101 ?_
        refine va_get (D := D) (ci := 6) (C := RX2) (T := TX2) (N := 11) hx hb hts hin_X2 hown hK hP 1 rfl rfl 6 (by decide) hf_202 (fun _ h9 => h9) rfl dX5_ofLine_104 ?_
        refine lv_iload_n hx hb dX5_ofLine_107 rfl (lv_at hl 1 rfl) ?_
        obtain ⟨h10, hp⟩ := hp
        refine va_iald hx hb hK hP 8 0 rfl rfl h10 dX5_ofLine_108 ?_
        exact hret ((σ2) 8 p1.toNatClampNeg) (σ2) _ _ _ _ _ _ dX5_ofLine_109 rfl hP hD hS (Nat.le_of_ble_eq_true rfl) (Nat.le_of_ble_eq_true rfl) hp
      · have hp := hp.2.2.2.2.2.1 ej5
        refine lv_tableIn (tgt := 110) (off := 91) hx hb dX5_ofLine_19 (by rw [ej5]; decide) (by rw [ej5]; decide) (by rw [ej5]; rfl) (by decide) ?_
        refine lv_aload_n hx hb dX5_ofLine_110 rfl (lv_at hl 0 rfl) ?_
        refine va_get (D := D) (ci := 9) (C := RX5) (T := TX5) (N := 4) hx hb hts hin_X5 hown hK hP 0 rfl rfl 0 (by decide) hf_10 (fun _ h9 => h9) rfl dX5_ofLine_111 ?_
        refine lv_iload_n hx hb dX5_ofLine_114 rfl (lv_at hl 1 rfl) ?_
        refine fw_ciV (As := [.int p1]) (rest := []) hC (c_X2_counts l D k ad hp) (cwV 1 hts (gA_V A_239 A_92 A_93 A_29 A_89) rfl rfl rfl (by decide +kernel) ⟨Nat.le_of_ble_eq_true rfl, Nat.le_of_ble_eq_true rfl⟩) (va_recv hK hP (ci := 6) (q0 := 1) rfl rfl) rfl hl.1 rfl (Nat.le_of_ble_eq_true rfl) dX5_ofLine_115 ⟨Nat.le_of_ble_eq_true rfl, Nat.le_of_ble_eq_true rfl⟩ hP hD hS Jn.same (fun r11 σ12 H locs hP hD hS hp => ?_)
        have hP : va_P D vwCl (W5 k ad (σ12)) H := hP
        have hD : va_D A (W5 k ad (σ12)) := hD
        refine lv_if_eq (tgt := 125) hx hb dX5_ofLine_118 (by decide) (fun c13 => ?_) (fun c13 => ?_)
        · have hp := hp.1 c13
          refine lv_iconst (v := 0) hx hb dX5_ofLine_125 (by decide) ?_
          exact B_126 0 (σ12) _ _ _  hP hD hS (lv_sub hl [] rfl) hp
        · have hp := hp.2 c13
          refine lv_iconst (v := 1) hx hb dX5_ofLine_121 (by decide) ?_
          refine lv_goto (tgt := 126) hx hb dX5_ofLine_122 (by decide) ?_
          exact B_126 1 (σ12) _ _ _  hP hD hS (lv_sub hl [] rfl) hp
      · have hp := hp.2.2.2.2.2.2 ej5
        refine lv_tableIn (tgt := 127) (off := 108) hx hb dX5_ofLine_19 (by rw [ej5]; decide) (by rw [ej5]; decide) (by rw [ej5]; rfl) (by decide) ?_
        refine lv_aload_n hx hb dX5_ofLine_127 rfl (lv_at hl 0 rfl) ?_
        refine va_get (D := D) (ci := 9) (C := RX5) (T := TX5) (N := 4) hx hb hts hin_X5 hown hK hP 0 rfl rfl 1 (by decide) hf_21 (fun _ h9 => h9) rfl dX5_ofLine_128 ?_
        refine lv_iconst (v := (-1)) hx hb dX5_ofLine_131 (by decide) ?_
        refine fw_ciV (As := [.int (-1)]) (rest := []) hC (c_X4_reasonOf l D k ad hp) (cwV 1 hts (gA_V A_284 A_285 A_286 A_173 A_179) rfl rfl rfl (by decide +kernel) ⟨Nat.le_of_ble_eq_true rfl, Nat.le_of_ble_eq_true rfl⟩) (va_recv hK hP (ci := 8) (q0 := 11) rfl rfl) rfl hl.1 rfl (Nat.le_of_ble_eq_true rfl) dX5_ofLine_132 ⟨Nat.le_of_ble_eq_true rfl, Nat.le_of_ble_eq_true rfl⟩ hP hD hS Jn.same (fun r14 σ15 H locs hP hD hS hp => ?_)
        have hP : va_P D vwCl (W5 k ad (σ15)) H := hP
        have hD : va_D A (W5 k ad (σ15)) := hD
        refine lv_iload_n hx hb dX5_ofLine_135 rfl (lv_at hl 1 rfl) ?_
        refine fw_ciS (As := [.int r14, .int p1]) (rest := []) hC (c_X5_contains l D k hp) (va_cwS 2 hts (gA_S A_257 A_24 A_25 A_14) rfl rfl rfl (by decide +kernel) ⟨Nat.le_of_ble_eq_true rfl, Nat.le_of_ble_eq_true rfl⟩) rfl hl.1 rfl (Nat.le_of_ble_eq_true rfl) dX5_ofLine_136 ⟨Nat.le_of_ble_eq_true rfl, Nat.le_of_ble_eq_true rfl⟩ P_nil D_nil hS (Jn.pure (w0 := fun _ : Mem => []) hP hD) (fun r16 σ17 H locs hP hD hS hp => ?_)
        have hP : va_P D vwCl (W5 k ad (σ15)) H := hP
        have hD : va_D A (W5 k ad (σ15)) := hD
        refine lv_if_eq (tgt := 146) hx hb dX5_ofLine_139 (by decide) (fun c18 => ?_) (fun c18 => ?_)
        · have hp := hp.1 c18
          refine lv_iconst (v := 0) hx hb dX5_ofLine_146 (by decide) ?_
          exact B_147 0 (σ15) _ _ _  hP hD hS (lv_sub hl [] rfl) hp
        · have hp := hp.2 c18
          refine lv_iconst (v := 1) hx hb dX5_ofLine_142 (by decide) ?_
          refine lv_goto (tgt := 147) hx hb dX5_ofLine_143 (by decide) ?_
          exact B_147 1 (σ15) _ _ _  hP hD hS (lv_sub hl [] rfl) hp
  · have hp := hp.2 c3
    exact hp.elim
abbrev rm0_X5_ofMachine : Room := { frames := 6, cells := 0, slots := 0, locals := 200 }
set_option maxHeartbeats 4000000 in
set_option maxRecDepth 100000 in
theorem c0_X5_ofMachine (l : Launch) (D : va_G) (k ad : Nat → Nat) {sz : Nat} {σ : Mem} {p1 : Int32} {p2 : Int32} {post : Int32 → Mem → Prop} (hp : q_X5_ofMachine post (fun _ _ => False) p1 p2 σ) : Met l yX5_ofMachine wq_X5_ofMachine rm0_X5_ofMachine (va_Pc [.ref (ad 0), .int p1, .int p2] (Pw D k (W5 k ad (σ)) sz)) (va_Qi post (fun u => Bw D (W5 k ad (σ)) sz (W5 k ad u)) (va_A (W5 k ad (σ)) sz)) 0 0 (va_A (W5 k ad (σ)) sz) := by
  refine fw_i (wf := fun u : Mem => W5 k ad u) (by decide) rfl (Nat.le_of_ble_eq_true rfl) ?_
  intro p e s m args below meth c A Q ls hC hP hD hl hret
  obtain ⟨⟨hx, hb, hml, hown, hts⟩, hG, hA⟩ := id hC
  have hK := hG.1
  have hS : va_S A s.heap s.heap [] := va_S.rf
  have hin_X5 : ∀ w ∈ u_ws RX5 TX5 4, w ∈ wq_X5_ofMachine := fun w h => List.mem_cons_of_mem _ (iU_X5 w h)
  have hf_28 := hts _ (List.mem_cons_of_mem _ A_189)
  have hin_X1 : ∀ w ∈ u_ws RX1 TX1 4, w ∈ wq_X5_ofMachine := fun w h => List.mem_cons_of_mem _ (iU_X1 w h)
  have hf_210 := hts _ (List.mem_cons_of_mem _ A_288)
  have hl : lv_has ls 3 [(0, .ref (ad 0)), (1, .int p1), (2, .int p2)] := hl
  have hown : s.vm.findClass RX5 = some m.cls := hown
  unfold q_X5_ofMachine at hp
  refine lv_iload_n hx hb dX5_ofMachine_0 rfl (lv_at hl 1 rfl) ?_
  refine fw_ciS (As := [.int p1]) (rest := []) hC (c_X5_isMachine l D k hp) (va_cwS 1 hts (gA_S A_265 A_266 A_25 A_262) rfl rfl rfl (by decide +kernel) ⟨Nat.le_of_ble_eq_true rfl, Nat.le_of_ble_eq_true rfl⟩) rfl hl.1 rfl (Nat.le_of_ble_eq_true rfl) dX5_ofMachine_1 ⟨Nat.le_of_ble_eq_true rfl, Nat.le_of_ble_eq_true rfl⟩ P_nil D_nil hS (Jn.pure (w0 := fun _ : Mem => []) hP hD) (fun r1 σ2 H locs hP hD hS hp => ?_)
  have hP : va_P D vwCl (W5 k ad (σ)) H := hP
  have hD : va_D A (W5 k ad (σ)) := hD
  refine lv_if_ne (tgt := 17) hx hb dX5_ofMachine_4 (by decide) (fun c3 => ?_) (fun c3 => ?_)
  · have hp := hp.1 c3
    refine lv_iload_n hx hb dX5_ofMachine_17 rfl (lv_at hl 2 rfl) ?_
    rcases sw_in p2 3 (by decide) with c4 | ⟨j5, hj5, ej5⟩
    · have hp := hp.1 c4
      refine lv_tableOut (tgt := 75) hx hb dX5_ofMachine_18 (sw_of c4) (by decide) ?_
      exact hp.elim
    · have hp := hp.2
      rcases (show j5 = 0 ∨ j5 = 1 ∨ j5 = 2 by omega) with rfl | rfl | rfl
      · have hp := hp.1 ej5
        refine lv_tableIn (tgt := 44) (off := 26) hx hb dX5_ofMachine_18 (by rw [ej5]; decide) (by rw [ej5]; decide) (by rw [ej5]; rfl) (by decide) ?_
        refine lv_aload_n hx hb dX5_ofMachine_44 rfl (lv_at hl 0 rfl) ?_
        refine va_get (D := D) (ci := 9) (C := RX5) (T := TX5) (N := 4) hx hb hts hin_X5 hown hK hP 0 rfl rfl 2 (by decide) hf_28 (fun _ h9 => h9) rfl dX5_ofMachine_45 ?_
        refine va_get (D := D) (ci := 5) (C := RX1) (T := TX1) (N := 4) hx hb hts hin_X1 hown hK hP 23 rfl rfl 2 (by decide) hf_210 (fun _ h9 => h9) rfl dX5_ofMachine_48 ?_
        refine lv_iload_n hx hb dX5_ofMachine_51 rfl (lv_at hl 1 rfl) ?_
        obtain ⟨h6, hp⟩ := hp
        refine va_iald hx hb hK hP 26 0 rfl rfl h6 dX5_ofMachine_52 ?_
        exact hret ((σ) 26 p1.toNatClampNeg) (σ) _ _ _ _ _ _ dX5_ofMachine_53 rfl hP hD hS (Nat.le_of_ble_eq_true rfl) (Nat.le_of_ble_eq_true rfl) hp
      · have hp := hp.2.1 ej5
        refine lv_tableIn (tgt := 54) (off := 36) hx hb dX5_ofMachine_18 (by rw [ej5]; decide) (by rw [ej5]; decide) (by rw [ej5]; rfl) (by decide) ?_
        refine lv_aload_n hx hb dX5_ofMachine_54 rfl (lv_at hl 0 rfl) ?_
        refine va_get (D := D) (ci := 9) (C := RX5) (T := TX5) (N := 4) hx hb hts hin_X5 hown hK hP 0 rfl rfl 2 (by decide) hf_28 (fun _ h9 => h9) rfl dX5_ofMachine_55 ?_
        refine lv_iload_n hx hb dX5_ofMachine_58 rfl (lv_at hl 1 rfl) ?_
        refine fw_ciV (As := [.int p1]) (rest := []) hC (c_X1_drifting l D k ad hp) (cwV 1 hts (gA_V A_289 A_71 A_72 A_68 A_64) rfl rfl rfl (by decide +kernel) ⟨Nat.le_of_ble_eq_true rfl, Nat.le_of_ble_eq_true rfl⟩) (va_recv hK hP (ci := 5) (q0 := 23) rfl rfl) rfl hl.1 rfl (Nat.le_of_ble_eq_true rfl) dX5_ofMachine_59 ⟨Nat.le_of_ble_eq_true rfl, Nat.le_of_ble_eq_true rfl⟩ hP hD hS Jn.same (fun r7 σ8 H locs hP hD hS hp => ?_)
        have hP : va_P D vwCl (W5 k ad (σ8)) H := hP
        have hD : va_D A (W5 k ad (σ8)) := hD
        refine fw_ciS (As := [.int r7]) (rest := []) hC (c_J6_bitCount_0f7a4 l D k hp) (va_cwS 1 hts (gA_S A_274 A_149 A_150 A_141) rfl rfl rfl (by decide +kernel) ⟨Nat.le_of_ble_eq_true rfl, Nat.le_of_ble_eq_true rfl⟩) rfl hl.1 rfl (Nat.le_of_ble_eq_true rfl) dX5_ofMachine_62 ⟨Nat.le_of_ble_eq_true rfl, Nat.le_of_ble_eq_true rfl⟩ P_nil D_nil hS (Jn.pure (w0 := fun _ : Mem => []) hP hD) (fun r9 σ10 H locs hP hD hS hp => ?_)
        have hP : va_P D vwCl (W5 k ad (σ8)) H := hP
        have hD : va_D A (W5 k ad (σ8)) := hD
        exact hret r9 (σ8) _ _ _ _ _ _ dX5_ofMachine_65 rfl hP hD hS (Nat.le_of_ble_eq_true rfl) (Nat.le_of_ble_eq_true rfl) hp
      · have hp := hp.2.2 ej5
        refine lv_tableIn (tgt := 66) (off := 48) hx hb dX5_ofMachine_18 (by rw [ej5]; decide) (by rw [ej5]; decide) (by rw [ej5]; rfl) (by decide) ?_
        refine lv_aload_n hx hb dX5_ofMachine_66 rfl (lv_at hl 0 rfl) ?_
        refine va_get (D := D) (ci := 9) (C := RX5) (T := TX5) (N := 4) hx hb hts hin_X5 hown hK hP 0 rfl rfl 2 (by decide) hf_28 (fun _ h9 => h9) rfl dX5_ofMachine_67 ?_
        refine lv_iload_n hx hb dX5_ofMachine_70 rfl (lv_at hl 1 rfl) ?_
        refine fw_ciV (As := [.int p1]) (rest := []) hC (c_X1_drifting l D k ad hp) (cwV 1 hts (gA_V A_289 A_71 A_72 A_68 A_64) rfl rfl rfl (by decide +kernel) ⟨Nat.le_of_ble_eq_true rfl, Nat.le_of_ble_eq_true rfl⟩) (va_recv hK hP (ci := 5) (q0 := 23) rfl rfl) rfl hl.1 rfl (Nat.le_of_ble_eq_true rfl) dX5_ofMachine_71 ⟨Nat.le_of_ble_eq_true rfl, Nat.le_of_ble_eq_true rfl⟩ hP hD hS Jn.same (fun r11 σ12 H locs hP hD hS hp => ?_)
        have hP : va_P D vwCl (W5 k ad (σ12)) H := hP
        have hD : va_D A (W5 k ad (σ12)) := hD
        exact hret r11 (σ12) _ _ _ _ _ _ dX5_ofMachine_74 rfl hP hD hS (Nat.le_of_ble_eq_true rfl) (Nat.le_of_ble_eq_true rfl) hp
  · have hp := hp.2 c3
    exact hp.elim
abbrev rm0_X5_has : Room := { frames := 6, cells := 0, slots := 0, locals := 200 }
set_option maxHeartbeats 4000000 in
set_option maxRecDepth 100000 in
theorem c0_X5_has (l : Launch) (D : va_G) (k ad : Nat → Nat) {sz : Nat} {σ : Mem} {p1 : Int32} {p2 : Int32} {post : Int32 → Mem → Prop} (hp : q_X5_has post (fun _ _ => False) p1 p2 σ) : Met l yX5_has wq_X5_has rm0_X5_has (va_Pc [.ref (ad 0), .int p1, .int p2] (Pw D k (W5 k ad (σ)) sz)) (va_Qi post (fun u => Bw D (W5 k ad (σ)) sz (W5 k ad u)) (va_A (W5 k ad (σ)) sz)) 0 0 (va_A (W5 k ad (σ)) sz) := by
  refine fw_i (wf := fun u : Mem => W5 k ad u) (by decide) rfl (Nat.le_of_ble_eq_true rfl) ?_
  intro p e s m args below meth c A Q ls hC hP hD hl hret
  obtain ⟨⟨hx, hb, hml, hown, hts⟩, hG, hA⟩ := id hC
  have hK := hG.1
  have hS : va_S A s.heap s.heap [] := va_S.rf
  have hin_X5 : ∀ w ∈ u_ws RX5 TX5 4, w ∈ wq_X5_has := fun w h => List.mem_cons_of_mem _ (iU_X5 w h)
  have hf_28 := hts _ (List.mem_cons_of_mem _ A_189)
  have hin_X1 : ∀ w ∈ u_ws RX1 TX1 4, w ∈ wq_X5_has := fun w h => List.mem_cons_of_mem _ (iU_X1 w h)
  have hf_156 := hts _ (List.mem_cons_of_mem _ A_264)
  have hl : lv_has ls 3 [(0, .ref (ad 0)), (1, .int p1), (2, .int p2)] := hl
  have hown : s.vm.findClass RX5 = some m.cls := hown
  unfold q_X5_has at hp
  have B_15 : ∀  (σ : Mem) (H : Heap) (locs : List Loc) (ls : Array Slot), va_P D vwCl (W5 k ad (σ)) H → va_D A (W5 k ad (σ)) → va_S A s.heap H locs → lv_has ls 3 [] → (q_X5_has_15 post (fun _ _ => False))  σ → W p l e rm0_X5_has s m args below meth c H locs 0 0 Q (F0 m 15 ls []) := by
    intro  σ H locs ls hP hD hS hl hp
    unfold q_X5_has_15 at hp
    exact hp.elim
  refine lv_iload_n hx hb dX5_has_0 rfl (lv_at hl 1 rfl) ?_
  refine fw_ciS (As := [.int p1]) (rest := []) hC (c_X5_isMachine l D k hp) (va_cwS 1 hts (gA_S A_265 A_266 A_25 A_262) rfl rfl rfl (by decide +kernel) ⟨Nat.le_of_ble_eq_true rfl, Nat.le_of_ble_eq_true rfl⟩) rfl hl.1 rfl (Nat.le_of_ble_eq_true rfl) dX5_has_1 ⟨Nat.le_of_ble_eq_true rfl, Nat.le_of_ble_eq_true rfl⟩ P_nil D_nil hS (Jn.pure (w0 := fun _ : Mem => []) hP hD) (fun r1 σ2 H locs hP hD hS hp => ?_)
  have hP : va_P D vwCl (W5 k ad (σ)) H := hP
  have hD : va_D A (W5 k ad (σ)) := hD
  refine lv_if_eq (tgt := 15) hx hb dX5_has_4 (by decide) (fun c3 => ?_) (fun c3 => ?_)
  · have hp := hp.1 c3
    exact B_15  (σ) _ _ _  hP hD hS (lv_sub hl [] rfl) hp
  · have hp := hp.2 c3
    refine lv_aload_n hx hb dX5_has_7 rfl (lv_at hl 0 rfl) ?_
    refine lv_iload_n hx hb dX5_has_8 rfl (lv_at hl 2 rfl) ?_
    refine fw_ciV (As := [.int p2]) (rest := []) hC (c_X5_isField l D k ad hp) (cwV 1 hts (gA_V A_220 A_221 A_222 A_25 A_212) rfl rfl rfl (by decide +kernel) ⟨Nat.le_of_ble_eq_true rfl, Nat.le_of_ble_eq_true rfl⟩) (va_recv hK hP (ci := 9) (q0 := 0) rfl rfl) rfl hl.1 rfl (Nat.le_of_ble_eq_true rfl) dX5_has_9 ⟨Nat.le_of_ble_eq_true rfl, Nat.le_of_ble_eq_true rfl⟩ hP hD hS Jn.same (fun r4 σ5 H locs hP hD hS hp => ?_)
    have hP : va_P D vwCl (W5 k ad (σ5)) H := hP
    have hD : va_D A (W5 k ad (σ5)) := hD
    refine lv_if_ne (tgt := 25) hx hb dX5_has_12 (by decide) (fun c6 => ?_) (fun c6 => ?_)
    · have hp := hp.1 c6
      refine lv_aload_n hx hb dX5_has_25 rfl (lv_at hl 0 rfl) ?_
      refine va_get (D := D) (ci := 9) (C := RX5) (T := TX5) (N := 4) hx hb hts hin_X5 hown hK hP 0 rfl rfl 2 (by decide) hf_28 (fun _ h9 => h9) rfl dX5_has_26 ?_
      refine va_get (D := D) (ci := 5) (C := RX1) (T := TX1) (N := 4) hx hb hts hin_X1 hown hK hP 23 rfl rfl 1 (by decide) hf_156 (fun _ h9 => h9) rfl dX5_has_29 ?_
      refine lv_iload_n hx hb dX5_has_32 rfl (lv_at hl 1 rfl) ?_
      obtain ⟨h7, hp⟩ := hp
      refine va_ald2 hx hb hK hP 25 2 rfl rfl h7 (if_some (vin_lt h7) _) dX5_has_33 ?_
      refine lv_iload_n hx hb dX5_has_34 rfl (lv_at hl 2 rfl) ?_
      obtain ⟨h8, hp⟩ := hp
      refine va_iald hx hb hK hP (39 + p1.toNatClampNeg) 0 (W5_had k ad (σ5) (vin_lt h7)) rfl h8 dX5_has_35 ?_
      exact hret ((σ5) (39 + p1.toNatClampNeg) p2.toNatClampNeg) (σ5) _ _ _ _ _ _ dX5_has_36 rfl hP hD hS (Nat.le_of_ble_eq_true rfl) (Nat.le_of_ble_eq_true rfl) hp
    · have hp := hp.2 c6
      exact B_15  (σ5) _ _ _  hP hD hS (lv_sub hl [] rfl) hp
abbrev rm0_X5_ofCommit : Room := { frames := 6, cells := 0, slots := 0, locals := 200 }
set_option maxHeartbeats 4000000 in
set_option maxRecDepth 100000 in
theorem c0_X5_ofCommit (l : Launch) (D : va_G) (k ad : Nat → Nat) {sz : Nat} {σ : Mem} {p1 : Int32} {p2 : Int32} {post : Int32 → Mem → Prop} (hp : q_X5_ofCommit post (fun _ _ => False) p1 p2 σ) : Met l yX5_ofCommit wq_X5_ofCommit rm0_X5_ofCommit (va_Pc [.ref (ad 0), .int p1, .int p2] (Pw D k (W5 k ad (σ)) sz)) (va_Qi post (fun u => Bw D (W5 k ad (σ)) sz (W5 k ad u)) (va_A (W5 k ad (σ)) sz)) 0 0 (va_A (W5 k ad (σ)) sz) := by
  refine fw_i (wf := fun u : Mem => W5 k ad u) (by decide) rfl (Nat.le_of_ble_eq_true rfl) ?_
  intro p e s m args below meth c A Q ls hC hP hD hl hret
  obtain ⟨⟨hx, hb, hml, hown, hts⟩, hG, hA⟩ := id hC
  have hK := hG.1
  have hS : va_S A s.heap s.heap [] := va_S.rf
  have hin_X5 : ∀ w ∈ u_ws RX5 TX5 4, w ∈ wq_X5_ofCommit := fun w h => List.mem_cons_of_mem _ (iU_X5 w h)
  have hf_28 := hts _ (List.mem_cons_of_mem _ A_189)
  have hin_X1 : ∀ w ∈ u_ws RX1 TX1 4, w ∈ wq_X5_ofCommit := fun w h => List.mem_cons_of_mem _ (iU_X1 w h)
  have hf_220 := hts _ (List.mem_cons_of_mem _ A_293)
  have hl : lv_has ls 3 [(0, .ref (ad 0)), (1, .int p1), (2, .int p2)] := hl
  have hown : s.vm.findClass RX5 = some m.cls := hown
  unfold q_X5_ofCommit at hp
  have B_16 : ∀  (σ : Mem) (H : Heap) (locs : List Loc) (ls : Array Slot), va_P D vwCl (W5 k ad (σ)) H → va_D A (W5 k ad (σ)) → va_S A s.heap H locs → lv_has ls 3 [] → (q_X5_ofCommit_16 post (fun _ _ => False))  σ → W p l e rm0_X5_ofCommit s m args below meth c H locs 0 0 Q (F0 m 16 ls []) := by
    intro  σ H locs ls hP hD hS hl hp
    unfold q_X5_ofCommit_16 at hp
    exact hp.elim
  refine lv_aload_n hx hb dX5_ofCommit_0 rfl (lv_at hl 0 rfl) ?_
  refine lv_iload_n hx hb dX5_ofCommit_1 rfl (lv_at hl 1 rfl) ?_
  refine fw_ciV (As := [.int p1]) (rest := []) hC (c_X5_isCommit l D k ad hp) (cwV 1 hts (gA_V A_254 A_255 A_256 A_25 A_253) rfl rfl rfl (by decide +kernel) ⟨Nat.le_of_ble_eq_true rfl, Nat.le_of_ble_eq_true rfl⟩) (va_recv hK hP (ci := 9) (q0 := 0) rfl rfl) rfl hl.1 rfl (Nat.le_of_ble_eq_true rfl) dX5_ofCommit_2 ⟨Nat.le_of_ble_eq_true rfl, Nat.le_of_ble_eq_true rfl⟩ hP hD hS Jn.same (fun r1 σ2 H locs hP hD hS hp => ?_)
  have hP : va_P D vwCl (W5 k ad (σ2)) H := hP
  have hD : va_D A (W5 k ad (σ2)) := hD
  refine lv_if_eq (tgt := 16) hx hb dX5_ofCommit_5 (by decide) (fun c3 => ?_) (fun c3 => ?_)
  · have hp := hp.1 c3
    exact B_16  (σ2) _ _ _  hP hD hS (lv_sub hl [] rfl) hp
  · have hp := hp.2 c3
    refine lv_aload_n hx hb dX5_ofCommit_8 rfl (lv_at hl 0 rfl) ?_
    refine lv_iload_n hx hb dX5_ofCommit_9 rfl (lv_at hl 2 rfl) ?_
    refine fw_ciV (As := [.int p2]) (rest := []) hC (c_X5_isField l D k ad hp) (cwV 1 hts (gA_V A_220 A_221 A_222 A_25 A_212) rfl rfl rfl (by decide +kernel) ⟨Nat.le_of_ble_eq_true rfl, Nat.le_of_ble_eq_true rfl⟩) (va_recv hK hP (ci := 9) (q0 := 0) rfl rfl) rfl hl.1 rfl (Nat.le_of_ble_eq_true rfl) dX5_ofCommit_10 ⟨Nat.le_of_ble_eq_true rfl, Nat.le_of_ble_eq_true rfl⟩ hP hD hS Jn.same (fun r4 σ5 H locs hP hD hS hp => ?_)
    have hP : va_P D vwCl (W5 k ad (σ5)) H := hP
    have hD : va_D A (W5 k ad (σ5)) := hD
    refine lv_if_ne (tgt := 26) hx hb dX5_ofCommit_13 (by decide) (fun c6 => ?_) (fun c6 => ?_)
    · have hp := hp.1 c6
      refine lv_aload_n hx hb dX5_ofCommit_26 rfl (lv_at hl 0 rfl) ?_
      refine va_get (D := D) (ci := 9) (C := RX5) (T := TX5) (N := 4) hx hb hts hin_X5 hown hK hP 0 rfl rfl 2 (by decide) hf_28 (fun _ h9 => h9) rfl dX5_ofCommit_27 ?_
      refine va_get (D := D) (ci := 5) (C := RX1) (T := TX1) (N := 4) hx hb hts hin_X1 hown hK hP 23 rfl rfl 0 (by decide) hf_220 (fun _ h9 => h9) rfl dX5_ofCommit_30 ?_
      refine lv_iload_n hx hb dX5_ofCommit_33 rfl (lv_at hl 1 rfl) ?_
      obtain ⟨h7, hp⟩ := hp
      refine va_ald2 hx hb hK hP 24 2 rfl rfl h7 (if_some (vin_lt h7) _) dX5_ofCommit_34 ?_
      refine lv_iload_n hx hb dX5_ofCommit_35 rfl (lv_at hl 2 rfl) ?_
      obtain ⟨h8, hp⟩ := hp
      refine va_iald hx hb hK hP (27 + p1.toNatClampNeg) 0 (W5_kept k ad (σ5) (vin_lt h7)) rfl h8 dX5_ofCommit_36 ?_
      exact hret ((σ5) (27 + p1.toNatClampNeg) p2.toNatClampNeg) (σ5) _ _ _ _ _ _ dX5_ofCommit_37 rfl hP hD hS (Nat.le_of_ble_eq_true rfl) (Nat.le_of_ble_eq_true rfl) hp
    · have hp := hp.2 c6
      exact B_16  (σ5) _ _ _  hP hD hS (lv_sub hl [] rfl) hp
abbrev rm0_X5_reason : Room := { frames := 6, cells := 0, slots := 0, locals := 200 }
set_option maxHeartbeats 4000000 in
set_option maxRecDepth 100000 in
theorem c0_X5_reason (l : Launch) (D : va_G) (k ad : Nat → Nat) {sz : Nat} {σ : Mem} {p1 : Int32} {post : Int32 → Mem → Prop} (hp : q_X5_reason post (fun _ _ => False) p1 σ) : Met l yX5_reason wq_X5_reason rm0_X5_reason (va_Pc [.ref (ad 0), .int p1] (Pw D k (W5 k ad (σ)) sz)) (va_Qi post (fun u => Bw D (W5 k ad (σ)) sz (W5 k ad u)) (va_A (W5 k ad (σ)) sz)) 0 0 (va_A (W5 k ad (σ)) sz) := by
  refine fw_i (wf := fun u : Mem => W5 k ad u) (by decide) rfl (Nat.le_of_ble_eq_true rfl) ?_
  intro p e s m args below meth c A Q ls hC hP hD hl hret
  obtain ⟨⟨hx, hb, hml, hown, hts⟩, hG, hA⟩ := id hC
  have hK := hG.1
  have hS : va_S A s.heap s.heap [] := va_S.rf
  have hin_X5 : ∀ w ∈ u_ws RX5 TX5 4, w ∈ wq_X5_reason := fun w h => List.mem_cons_of_mem _ (iU_X5 w h)
  have hf_21 := hts _ (List.mem_cons_of_mem _ A_186)
  have hl : lv_has ls 2 [(0, .ref (ad 0)), (1, .int p1)] := hl
  have hown : s.vm.findClass RX5 = some m.cls := hown
  unfold q_X5_reason at hp
  have B_23 : ∀ (x1 : Int32) (σ : Mem) (H : Heap) (locs : List Loc) (ls : Array Slot), va_P D vwCl (W5 k ad (σ)) H → va_D A (W5 k ad (σ)) → va_S A s.heap H locs → lv_has ls 2 [(0, .ref (ad 0)), (1, .int x1)] → (q_X5_reason_23 post (fun _ _ => False)) x1 σ → W p l e rm0_X5_reason s m args below meth c H locs 0 0 Q (F0 m 23 ls []) := by
    intro x1 σ H locs ls hP hD hS hl hp
    unfold q_X5_reason_23 at hp
    refine lv_aload_n hx hb dX5_reason_23 rfl (lv_at hl 0 rfl) ?_
    refine va_get (D := D) (ci := 9) (C := RX5) (T := TX5) (N := 4) hx hb hts hin_X5 hown hK hP 0 rfl rfl 1 (by decide) hf_21 (fun _ h9 => h9) rfl dX5_reason_24 ?_
    refine lv_iload_n hx hb dX5_reason_27 rfl (lv_at hl 1 rfl) ?_
    refine fw_ciV (As := [.int x1]) (rest := []) hC (c_X4_reasonOf l D k ad hp) (cwV 1 hts (gA_V A_284 A_285 A_286 A_173 A_179) rfl rfl rfl (by decide +kernel) ⟨Nat.le_of_ble_eq_true rfl, Nat.le_of_ble_eq_true rfl⟩) (va_recv hK hP (ci := 8) (q0 := 11) rfl rfl) rfl hl.1 rfl (Nat.le_of_ble_eq_true rfl) dX5_reason_28 ⟨Nat.le_of_ble_eq_true rfl, Nat.le_of_ble_eq_true rfl⟩ hP hD hS Jn.same (fun r10001 σ10002 H locs hP hD hS hp => ?_)
    have hP : va_P D vwCl (W5 k ad (σ10002)) H := hP
    have hD : va_D A (W5 k ad (σ10002)) := hD
    exact hret r10001 (σ10002) _ _ _ _ _ _ dX5_reason_31 rfl hP hD hS (Nat.le_of_ble_eq_true rfl) (Nat.le_of_ble_eq_true rfl) hp
  refine lv_iload_n hx hb dX5_reason_0 rfl (lv_at hl 1 rfl) ?_
  refine lv_iconst (v := (-1)) hx hb dX5_reason_1 (by decide) ?_
  refine lv_icmp_eq (tgt := 23) hx hb dX5_reason_2 (by decide) (fun c1 => ?_) (fun c1 => ?_)
  · have hp := hp.1 c1
    exact B_23 p1 (σ) _ _ _  hP hD hS (lv_sub hl [0, 1] rfl) hp
  · have hp := hp.2 c1
    refine lv_aload_n hx hb dX5_reason_5 rfl (lv_at hl 0 rfl) ?_
    refine lv_iload_n hx hb dX5_reason_6 rfl (lv_at hl 1 rfl) ?_
    refine fw_ciV (As := [.int p1]) (rest := []) hC (c_X5_isField l D k ad hp) (cwV 1 hts (gA_V A_220 A_221 A_222 A_25 A_212) rfl rfl rfl (by decide +kernel) ⟨Nat.le_of_ble_eq_true rfl, Nat.le_of_ble_eq_true rfl⟩) (va_recv hK hP (ci := 9) (q0 := 0) rfl rfl) rfl hl.1 rfl (Nat.le_of_ble_eq_true rfl) dX5_reason_7 ⟨Nat.le_of_ble_eq_true rfl, Nat.le_of_ble_eq_true rfl⟩ hP hD hS Jn.same (fun r2 σ3 H locs hP hD hS hp => ?_)
    have hP : va_P D vwCl (W5 k ad (σ3)) H := hP
    have hD : va_D A (W5 k ad (σ3)) := hD
    refine lv_if_ne (tgt := 23) hx hb dX5_reason_10 (by decide) (fun c4 => ?_) (fun c4 => ?_)
    · have hp := hp.1 c4
      exact B_23 p1 (σ3) _ _ _  hP hD hS (lv_sub hl [0, 1] rfl) hp
    · have hp := hp.2 c4
      exact hp.elim
def q_X5_isSound_170  (post : Int32 → Mem → Prop)  (σ : Mem) : Prop := ((((σ) 12 2) ≠ 0 → (q_X4_reasonOf (fun (r13002 : Int32) (σ13003 : Mem) => (q_X3_begin 14 15 (fun (σ13005 : Mem) => (bz ((σ13005) 14 2) ∧ post ((σ13005) 14 2) (σ13005))) r13002 (σ13003))) (-1) (σ))) ∧ (((σ) 12 2) = 0 → post 1 (σ)))
def q_X5_isSound_164  (post : Int32 → Mem → Prop) (kE_162 : Mem → Prop) (kE_170 : Mem → Prop) (kc_132 : Int32 → Mem → Prop) (x1 : Int32) (σ : Mem) : Prop := (∀ v12001 : Int32, v12001 = x1 + 1 → kc_132 v12001 (σ))
def q_X5_isSound_162  (post : Int32 → Mem → Prop)  (σ : Mem) : Prop := post 0 (σ)
def q_X5_isSound_132  (post : Int32 → Mem → Prop) (kE_162 : Mem → Prop) (kE_170 : Mem → Prop) (kc_132 : Int32 → Mem → Prop) (x1 : Int32) (σ : Mem) : Prop := ((6 ≤ x1 → kE_170 (σ)) ∧ (¬ (6 ≤ x1) → (vp_in x1 6 ∧ ((((σ) 26 x1.toNatClampNeg) ≠ (-1) → (q_X5_isSound_164 post kE_162 kE_170 kc_132) x1 (σ)) ∧ (((σ) 26 x1.toNatClampNeg) = (-1) → (q_X1_drifting (fun (r10004 : Int32) (σ10005 : Mem) => ((r10004 = 0 → (q_X5_isSound_164 post kE_162 kE_170 kc_132) x1 (σ10005)) ∧ (¬ (r10004 = 0) → kE_162 (σ10005)))) x1 (σ)))))))
def q_X5_isSound_130  (post : Int32 → Mem → Prop)  (σ : Mem) : Prop := (∃ n9 : Nat, lp_2 (q_X5_isSound_132 post (q_X5_isSound_162 post) (q_X5_isSound_170 post)) n9 0 (σ))
def q_X5_isSound_124  (post : Int32 → Mem → Prop) (kE_122 : Mem → Prop) (kE_130 : Mem → Prop) (kc_88 : Int32 → Mem → Prop) (x1 : Int32) (σ : Mem) : Prop := (∀ v8001 : Int32, v8001 = x1 + 1 → kc_88 v8001 (σ))
def q_X5_isSound_122  (post : Int32 → Mem → Prop)  (σ : Mem) : Prop := post 0 (σ)
def q_X5_isSound_88  (post : Int32 → Mem → Prop) (kE_122 : Mem → Prop) (kE_130 : Mem → Prop) (kc_88 : Int32 → Mem → Prop) (x1 : Int32) (σ : Mem) : Prop := ((((σ) 1 10) ≤ x1 → kE_130 (σ)) ∧ (¬ (((σ) 1 10) ≤ x1) → (vp_in x1 30 ∧ ((((σ) 10 x1.toNatClampNeg) = 0 → (q_X5_isSound_124 post kE_122 kE_130 kc_88) x1 (σ)) ∧ (¬ (((σ) 10 x1.toNatClampNeg) = 0) → (q_X2_counts (fun (r6004 : Int32) (σ6005 : Mem) => ((r6004 = 0 → (q_X5_isSound_124 post kE_122 kE_130 kc_88) x1 (σ6005)) ∧ (¬ (r6004 = 0) → kE_122 (σ6005)))) x1 (σ)))))))
def q_X5_isSound_86  (post : Int32 → Mem → Prop)  (σ : Mem) : Prop := (∃ n9 : Nat, lp_2 (q_X5_isSound_88 post (q_X5_isSound_122 post) (q_X5_isSound_130 post)) n9 0 (σ))
def q_X5_isSound_80  (post : Int32 → Mem → Prop) (kE_78 : Mem → Prop) (kE_86 : Mem → Prop) (kc_2 : Int32 → Mem → Prop) (x1 : Int32) (σ : Mem) : Prop := (∀ v4001 : Int32, v4001 = x1 + 1 → kc_2 v4001 (σ))
def q_X5_isSound_78  (post : Int32 → Mem → Prop)  (σ : Mem) : Prop := post 0 (σ)
def q_X5_isSound_63  (post : Int32 → Mem → Prop) (kE_78 : Mem → Prop) (kE_86 : Mem → Prop) (kc_2 : Int32 → Mem → Prop) (x1 : Int32) (x2 : Int32) (x4 : Int32) (σ : Mem) : Prop := ((x4 = (-1) → (q_X5_isSound_80 post kE_78 kE_86 kc_2) x1 (σ)) ∧ (¬ (x4 = (-1)) → (q_X5_contains (fun (r2002 : Int32) (σ2003 : Mem) => ((r2002 ≠ 0 → (q_X5_isSound_80 post kE_78 kE_86 kc_2) x1 (σ)) ∧ (r2002 = 0 → kE_78 (σ)))) x2 x4 (σ))))
def q_X5_isSound_2  (post : Int32 → Mem → Prop) (kE_78 : Mem → Prop) (kE_86 : Mem → Prop) (kc_2 : Int32 → Mem → Prop) (x1 : Int32) (σ : Mem) : Prop := ((((σ) 1 9) ≤ x1 → kE_86 (σ)) ∧ (¬ (((σ) 1 9) ≤ x1) → (vp_in x1 5 ∧ (∀ v1003 : Int32, v1003 = ((σ) 13 x1.toNatClampNeg) → (vp_in x1 5 ∧ (∀ v1005 : Int32, v1005 = ((σ) 22 x1.toNatClampNeg) → (vp_in x1 5 ∧ (∀ v1007 : Int32, v1007 = ((σ) 21 x1.toNatClampNeg) → ((v1005 = (-1) → (q_X5_isSound_63 post kE_78 kE_86 kc_2) x1 v1003 v1007 (σ)) ∧ (¬ (v1005 = (-1)) → (q_X5_contains (fun (r1009 : Int32) (σ1010 : Mem) => ((r1009 = 0 → kE_78 (σ)) ∧ (¬ (r1009 = 0) → (q_X5_isSound_63 post kE_78 kE_86 kc_2) x1 v1003 v1007 (σ)))) v1003 v1005 (σ))))))))))))
def q_X5_isSound  (post : Int32 → Mem → Prop) (σ : Mem) : Prop := (∃ n9 : Nat, lp_2 (q_X5_isSound_2 post (q_X5_isSound_78 post) (q_X5_isSound_86 post)) n9 0 (σ))
abbrev rm_X5_isSound : Room := { frames := 5, cells := 0, slots := 0, locals := 119 }
abbrev wq_X5_isSound : List Cond := Cond.code yX5_isSound cX5_isSound 5 (some .boolean) :: wALL
set_option maxHeartbeats 4000000 in
set_option maxRecDepth 100000 in
theorem c_X5_isSound (l : Launch) (D : va_G) (k ad : Nat → Nat) {sz : Nat} {σ : Mem} {post : Int32 → Mem → Prop} (hp : q_X5_isSound post σ) : Met l yX5_isSound wq_X5_isSound rm_X5_isSound (va_Pc [.ref (ad 0)] (Pw D k (W5 k ad (σ)) sz)) (va_Qi post (fun u => Bw D (W5 k ad (σ)) sz (W5 k ad u)) (va_A (W5 k ad (σ)) sz)) 0 0 (va_A (W5 k ad (σ)) sz) := by
  refine fw_i (wf := fun u : Mem => W5 k ad u) (by decide) rfl (Nat.le_of_ble_eq_true rfl) ?_
  intro p e s m args below meth c A Q ls hC hP hD hl hret
  obtain ⟨⟨hx, hb, hml, hown, hts⟩, hG, hA⟩ := id hC
  have hK := hG.1
  have hS : va_S A s.heap s.heap [] := va_S.rf
  have hin_X5 : ∀ w ∈ u_ws RX5 TX5 4, w ∈ wq_X5_isSound := fun w h => List.mem_cons_of_mem _ (iU_X5 w h)
  have hf_10 := hts _ (List.mem_cons_of_mem _ A_183)
  have hin_X2 : ∀ w ∈ u_ws RX2 TX2 11, w ∈ wq_X5_isSound := fun w h => List.mem_cons_of_mem _ (iU_X2 w h)
  have hf_47 := hts _ (List.mem_cons_of_mem _ A_202)
  have hf_21 := hts _ (List.mem_cons_of_mem _ A_186)
  have hin_X4 : ∀ w ∈ u_ws RX4 TX4 7, w ∈ wq_X5_isSound := fun w h => List.mem_cons_of_mem _ (iU_X4 w h)
  have hf_113 := hts _ (List.mem_cons_of_mem _ A_246)
  have hin_X3 : ∀ w ∈ u_ws RX3 TX3 3, w ∈ wq_X5_isSound := fun w h => List.mem_cons_of_mem _ (iU_X3 w h)
  have hf_168 := hts _ (List.mem_cons_of_mem _ A_271)
  have hf_128 := hts _ (List.mem_cons_of_mem _ A_249)
  have hf_176 := hts _ (List.mem_cons_of_mem _ A_272)
  have hin_X0 : ∀ w ∈ u_ws RX0 TX0 7, w ∈ wq_X5_isSound := fun w h => List.mem_cons_of_mem _ (iU_X0 w h)
  have hf_180 := hts _ (List.mem_cons_of_mem _ A_273)
  have hf_72 := hts _ (List.mem_cons_of_mem _ A_219)
  have hf_104 := hts _ (List.mem_cons_of_mem _ A_241)
  have hf_28 := hts _ (List.mem_cons_of_mem _ A_189)
  have hin_X1 : ∀ w ∈ u_ws RX1 TX1 4, w ∈ wq_X5_isSound := fun w h => List.mem_cons_of_mem _ (iU_X1 w h)
  have hf_210 := hts _ (List.mem_cons_of_mem _ A_288)
  have hf_117 := hts _ (List.mem_cons_of_mem _ A_247)
  have hf_254 := hts _ (List.mem_cons_of_mem _ A_517)
  have hl : lv_has ls 5 [(0, .ref (ad 0))] := hl
  have hown : s.vm.findClass RX5 = some m.cls := hown
  unfold q_X5_isSound at hp
  have B_170 : ∀  (σ : Mem) (H : Heap) (locs : List Loc) (ls : Array Slot), va_P D vwCl (W5 k ad (σ)) H → va_D A (W5 k ad (σ)) → va_S A s.heap H locs → lv_has ls 5 [(0, .ref (ad 0))] → (q_X5_isSound_170 post)  σ → W p l e rm_X5_isSound s m args below meth c H locs 0 0 Q (F0 m 170 ls []) := by
    intro  σ H locs ls hP hD hS hl hp
    unfold q_X5_isSound_170 at hp
    refine lv_aload_n hx hb dX5_isSound_170 rfl (lv_at hl 0 rfl) ?_
    refine va_get (D := D) (ci := 9) (C := RX5) (T := TX5) (N := 4) hx hb hts hin_X5 hown hK hP 0 rfl rfl 1 (by decide) hf_21 (fun _ h9 => h9) rfl dX5_isSound_171 ?_
    refine va_get (D := D) (ci := 8) (C := RX4) (T := TX4) (N := 7) hx hb hts hin_X4 hown hK hP 11 rfl rfl 1 (by decide) hf_113 (fun _ h9 => h9) rfl dX5_isSound_174 ?_
    refine va_get (D := D) (ci := 7) (C := RX3) (T := TX3) (N := 3) hx hb hts hin_X3 hown hK hP 12 rfl rfl 2 (by decide) hf_117 (fun _ h9 => h9) rfl dX5_isSound_177 ?_
    refine lv_if_ne (tgt := 185) hx hb dX5_isSound_180 (by decide) (fun c130001 => ?_) (fun c130001 => ?_)
    · have hp := hp.1 c130001
      refine lv_aload_n hx hb dX5_isSound_185 rfl (lv_at hl 0 rfl) ?_
      refine va_get (D := D) (ci := 9) (C := RX5) (T := TX5) (N := 4) hx hb hts hin_X5 hown hK hP 0 rfl rfl 1 (by decide) hf_21 (fun _ h9 => h9) rfl dX5_isSound_186 ?_
      refine va_get (D := D) (ci := 8) (C := RX4) (T := TX4) (N := 7) hx hb hts hin_X4 hown hK hP 11 rfl rfl 2 (by decide) hf_254 (fun _ h9 => h9) rfl dX5_isSound_189 ?_
      refine lv_aload_n hx hb dX5_isSound_192 rfl (lv_at hl 0 rfl) ?_
      refine va_get (D := D) (ci := 9) (C := RX5) (T := TX5) (N := 4) hx hb hts hin_X5 hown hK hP 0 rfl rfl 1 (by decide) hf_21 (fun _ h9 => h9) rfl dX5_isSound_193 ?_
      refine lv_iconst (v := (-1)) hx hb dX5_isSound_196 (by decide) ?_
      refine fw_ciV (As := [.int (-1)]) (rest := [.ref (ad 14)]) hC (c_X4_reasonOf l D k ad hp) (cwV 1 hts (gA_V A_284 A_285 A_286 A_173 A_179) rfl rfl rfl (by decide +kernel) ⟨Nat.le_of_ble_eq_true rfl, Nat.le_of_ble_eq_true rfl⟩) (va_recv hK hP (ci := 8) (q0 := 11) rfl rfl) rfl hl.1 rfl (Nat.le_of_ble_eq_true rfl) dX5_isSound_197 ⟨Nat.le_of_ble_eq_true rfl, Nat.le_of_ble_eq_true rfl⟩ hP hD hS Jn.same (fun r130002 σ130003 H locs hP hD hS hp => ?_)
      have hP : va_P D vwCl (W5 k ad (σ130003)) H := hP
      have hD : va_D A (W5 k ad (σ130003)) := hD
      refine fw_cvV (As := [.int r130002]) (rest := []) hC (c_X3_begin_14 l D k ad hp) (cwV 1 hts (gA_V A_518 A_165 A_166 A_115 A_121) rfl rfl rfl (by decide +kernel) ⟨Nat.le_of_ble_eq_true rfl, Nat.le_of_ble_eq_true rfl⟩) (va_recv hK hP (ci := 7) (q0 := 14) rfl rfl) rfl hl.1 rfl (Nat.le_of_ble_eq_true rfl) dX5_isSound_200 ⟨Nat.le_of_ble_eq_true rfl, Nat.le_of_ble_eq_true rfl⟩ hP hD hS Jn.same (fun σ130005 H locs hP hD hS hp => ?_)
      have hP : va_P D vwCl (W5 k ad (σ130005)) H := hP
      have hD : va_D A (W5 k ad (σ130005)) := hD
      refine lv_aload_n hx hb dX5_isSound_203 rfl (lv_at hl 0 rfl) ?_
      refine va_get (D := D) (ci := 9) (C := RX5) (T := TX5) (N := 4) hx hb hts hin_X5 hown hK hP 0 rfl rfl 1 (by decide) hf_21 (fun _ h9 => h9) rfl dX5_isSound_204 ?_
      refine va_get (D := D) (ci := 8) (C := RX4) (T := TX4) (N := 7) hx hb hts hin_X4 hown hK hP 11 rfl rfl 2 (by decide) hf_254 (fun _ h9 => h9) rfl dX5_isSound_207 ?_
      refine va_get (D := D) (ci := 7) (C := RX3) (T := TX3) (N := 3) hx hb hts hin_X3 hown hK hP 14 rfl rfl 2 (by decide) hf_117 (fun _ h9 => h9) rfl dX5_isSound_210 ?_
      exact hret ((σ130005) 14 2) (σ130005) _ _ _ _ _ _ dX5_isSound_213 hp.1.1 hP hD hS (Nat.le_of_ble_eq_true rfl) (Nat.le_of_ble_eq_true rfl) hp.2
    · have hp := hp.2 c130001
      refine lv_iconst (v := 1) hx hb dX5_isSound_183 (by decide) ?_
      exact hret 1 (σ) _ _ _ _ _ _ dX5_isSound_184 (by decide) hP hD hS (Nat.le_of_ble_eq_true rfl) (Nat.le_of_ble_eq_true rfl) hp
  have B_162 : ∀  (σ : Mem) (H : Heap) (locs : List Loc) (ls : Array Slot), va_P D vwCl (W5 k ad (σ)) H → va_D A (W5 k ad (σ)) → va_S A s.heap H locs → lv_has ls 5 [] → (q_X5_isSound_162 post)  σ → W p l e rm_X5_isSound s m args below meth c H locs 0 0 Q (F0 m 162 ls []) := by
    intro  σ H locs ls hP hD hS hl hp
    unfold q_X5_isSound_162 at hp
    refine lv_iconst (v := 0) hx hb dX5_isSound_162 (by decide) ?_
    exact hret 0 (σ) _ _ _ _ _ _ dX5_isSound_163 (by decide) hP hD hS (Nat.le_of_ble_eq_true rfl) (Nat.le_of_ble_eq_true rfl) hp
  have B_132 : ∀ (n_132 : Nat) (x1 : Int32) (σ : Mem) (H : Heap) (locs : List Loc) (ls : Array Slot), va_P D vwCl (W5 k ad (σ)) H → va_D A (W5 k ad (σ)) → va_S A s.heap H locs → lv_has ls 5 [(0, .ref (ad 0)), (1, .int x1)] → lp_2 (q_X5_isSound_132 post (q_X5_isSound_162 post) (q_X5_isSound_170 post)) n_132 x1 σ → W p l e rm_X5_isSound s m args below meth c H locs 0 0 Q (F0 m 132 ls []) := by
    intro n_132
    induction n_132 with
    | zero => intro x1 σ H locs ls hP hD hS hl hp; exact hp.elim
    | succ n_132 ih_132 =>
      have B_164 : ∀ (x1 : Int32) (σ : Mem) (H : Heap) (locs : List Loc) (ls : Array Slot), va_P D vwCl (W5 k ad (σ)) H → va_D A (W5 k ad (σ)) → va_S A s.heap H locs → lv_has ls 5 [(0, .ref (ad 0)), (1, .int x1)] → (q_X5_isSound_164 post (q_X5_isSound_162 post) (q_X5_isSound_170 post) (lp_2 (q_X5_isSound_132 post (q_X5_isSound_162 post) (q_X5_isSound_170 post)) n_132)) x1 σ → W p l e rm_X5_isSound s m args below meth c H locs 0 0 Q (F0 m 164 ls []) := by
        intro x1 σ H locs ls hP hD hS hl hp
        unfold q_X5_isSound_164 at hp
        obtain ⟨v120001, ev120001⟩ : ∃ z : Int32, z = x1 + 1 := ⟨_, rfl⟩
        have hp := hp v120001 ev120001
        refine lv_iinc (v := v120001) (lv' := [(1, .int v120001), (0, .ref (ad 0))]) hx hb dX5_isSound_164 hl (k := 1) rfl (by rw [ev120001]; rfl) (by decide) rfl (fun ls hl => ?_)
        refine lv_goto (tgt := 132) hx hb dX5_isSound_167 (by decide) ?_
        exact ih_132 v120001 (σ) _ _ _  hP hD hS (lv_sub hl [1, 0] rfl) hp
      intro x1 σ H locs ls hP hD hS hl hp
      have hp : q_X5_isSound_132 post (q_X5_isSound_162 post) (q_X5_isSound_170 post) (lp_2 (q_X5_isSound_132 post (q_X5_isSound_162 post) (q_X5_isSound_170 post)) n_132) x1 σ := hp
      unfold q_X5_isSound_132 at hp
      refine lv_iload_n hx hb dX5_isSound_132 rfl (lv_at hl 1 rfl) ?_
      refine lv_bipush (v := 6) hx hb dX5_isSound_133 (by decide) ?_
      refine lv_icmp_ge (tgt := 170) hx hb dX5_isSound_135 (by decide) (fun c100001 => ?_) (fun c100001 => ?_)
      · have hp := hp.1 c100001
        exact B_170  (σ) _ _ _  hP hD hS (lv_sub hl [0] rfl) hp
      · have hp := hp.2 c100001
        refine lv_aload_n hx hb dX5_isSound_138 rfl (lv_at hl 0 rfl) ?_
        refine va_get (D := D) (ci := 9) (C := RX5) (T := TX5) (N := 4) hx hb hts hin_X5 hown hK hP 0 rfl rfl 2 (by decide) hf_28 (fun _ h9 => h9) rfl dX5_isSound_139 ?_
        refine va_get (D := D) (ci := 5) (C := RX1) (T := TX1) (N := 4) hx hb hts hin_X1 hown hK hP 23 rfl rfl 2 (by decide) hf_210 (fun _ h9 => h9) rfl dX5_isSound_142 ?_
        refine lv_iload_n hx hb dX5_isSound_145 rfl (lv_at hl 1 rfl) ?_
        obtain ⟨h100002, hp⟩ := hp
        refine va_iald hx hb hK hP 26 0 rfl rfl h100002 dX5_isSound_146 ?_
        refine lv_iconst (v := (-1)) hx hb dX5_isSound_147 (by decide) ?_
        refine lv_icmp_ne (tgt := 164) hx hb dX5_isSound_148 (by decide) (fun c100003 => ?_) (fun c100003 => ?_)
        · have hp := hp.1 c100003
          exact B_164 x1 (σ) _ _ _  hP hD hS (lv_sub hl [0, 1] rfl) hp
        · have hp := hp.2 c100003
          refine lv_aload_n hx hb dX5_isSound_151 rfl (lv_at hl 0 rfl) ?_
          refine va_get (D := D) (ci := 9) (C := RX5) (T := TX5) (N := 4) hx hb hts hin_X5 hown hK hP 0 rfl rfl 2 (by decide) hf_28 (fun _ h9 => h9) rfl dX5_isSound_152 ?_
          refine lv_iload_n hx hb dX5_isSound_155 rfl (lv_at hl 1 rfl) ?_
          refine fw_ciV (As := [.int x1]) (rest := []) hC (c_X1_drifting l D k ad hp) (cwV 1 hts (gA_V A_289 A_71 A_72 A_68 A_64) rfl rfl rfl (by decide +kernel) ⟨Nat.le_of_ble_eq_true rfl, Nat.le_of_ble_eq_true rfl⟩) (va_recv hK hP (ci := 5) (q0 := 23) rfl rfl) rfl hl.1 rfl (Nat.le_of_ble_eq_true rfl) dX5_isSound_156 ⟨Nat.le_of_ble_eq_true rfl, Nat.le_of_ble_eq_true rfl⟩ hP hD hS Jn.same (fun r100004 σ100005 H locs hP hD hS hp => ?_)
          have hP : va_P D vwCl (W5 k ad (σ100005)) H := hP
          have hD : va_D A (W5 k ad (σ100005)) := hD
          refine lv_if_eq (tgt := 164) hx hb dX5_isSound_159 (by decide) (fun c100006 => ?_) (fun c100006 => ?_)
          · have hp := hp.1 c100006
            exact B_164 x1 (σ100005) _ _ _  hP hD hS (lv_sub hl [0, 1] rfl) hp
          · have hp := hp.2 c100006
            exact B_162  (σ100005) _ _ _  hP hD hS (lv_sub hl [] rfl) hp
  have B_130 : ∀  (σ : Mem) (H : Heap) (locs : List Loc) (ls : Array Slot), va_P D vwCl (W5 k ad (σ)) H → va_D A (W5 k ad (σ)) → va_S A s.heap H locs → lv_has ls 5 [(0, .ref (ad 0))] → (q_X5_isSound_130 post)  σ → W p l e rm_X5_isSound s m args below meth c H locs 0 0 Q (F0 m 130 ls []) := by
    intro  σ H locs ls hP hD hS hl hp
    unfold q_X5_isSound_130 at hp
    refine lv_iconst (v := 0) hx hb dX5_isSound_130 (by decide) ?_
    refine lv_istore_n (lv' := [(1, .int 0), (0, .ref (ad 0))]) hx hb dX5_isSound_131 rfl hl (by decide) rfl (fun ls hl => ?_)
    obtain ⟨n9, hp⟩ := hp
    exact B_132 n9 0 (σ) _ _ _  hP hD hS (lv_sub hl [1, 0] rfl) hp
  have B_122 : ∀  (σ : Mem) (H : Heap) (locs : List Loc) (ls : Array Slot), va_P D vwCl (W5 k ad (σ)) H → va_D A (W5 k ad (σ)) → va_S A s.heap H locs → lv_has ls 5 [] → (q_X5_isSound_122 post)  σ → W p l e rm_X5_isSound s m args below meth c H locs 0 0 Q (F0 m 122 ls []) := by
    intro  σ H locs ls hP hD hS hl hp
    unfold q_X5_isSound_122 at hp
    refine lv_iconst (v := 0) hx hb dX5_isSound_122 (by decide) ?_
    exact hret 0 (σ) _ _ _ _ _ _ dX5_isSound_123 (by decide) hP hD hS (Nat.le_of_ble_eq_true rfl) (Nat.le_of_ble_eq_true rfl) hp
  have B_88 : ∀ (n_88 : Nat) (x1 : Int32) (σ : Mem) (H : Heap) (locs : List Loc) (ls : Array Slot), va_P D vwCl (W5 k ad (σ)) H → va_D A (W5 k ad (σ)) → va_S A s.heap H locs → lv_has ls 5 [(0, .ref (ad 0)), (1, .int x1)] → lp_2 (q_X5_isSound_88 post (q_X5_isSound_122 post) (q_X5_isSound_130 post)) n_88 x1 σ → W p l e rm_X5_isSound s m args below meth c H locs 0 0 Q (F0 m 88 ls []) := by
    intro n_88
    induction n_88 with
    | zero => intro x1 σ H locs ls hP hD hS hl hp; exact hp.elim
    | succ n_88 ih_88 =>
      have B_124 : ∀ (x1 : Int32) (σ : Mem) (H : Heap) (locs : List Loc) (ls : Array Slot), va_P D vwCl (W5 k ad (σ)) H → va_D A (W5 k ad (σ)) → va_S A s.heap H locs → lv_has ls 5 [(0, .ref (ad 0)), (1, .int x1)] → (q_X5_isSound_124 post (q_X5_isSound_122 post) (q_X5_isSound_130 post) (lp_2 (q_X5_isSound_88 post (q_X5_isSound_122 post) (q_X5_isSound_130 post)) n_88)) x1 σ → W p l e rm_X5_isSound s m args below meth c H locs 0 0 Q (F0 m 124 ls []) := by
        intro x1 σ H locs ls hP hD hS hl hp
        unfold q_X5_isSound_124 at hp
        obtain ⟨v80001, ev80001⟩ : ∃ z : Int32, z = x1 + 1 := ⟨_, rfl⟩
        have hp := hp v80001 ev80001
        refine lv_iinc (v := v80001) (lv' := [(1, .int v80001), (0, .ref (ad 0))]) hx hb dX5_isSound_124 hl (k := 1) rfl (by rw [ev80001]; rfl) (by decide) rfl (fun ls hl => ?_)
        refine lv_goto (tgt := 88) hx hb dX5_isSound_127 (by decide) ?_
        exact ih_88 v80001 (σ) _ _ _  hP hD hS (lv_sub hl [1, 0] rfl) hp
      intro x1 σ H locs ls hP hD hS hl hp
      have hp : q_X5_isSound_88 post (q_X5_isSound_122 post) (q_X5_isSound_130 post) (lp_2 (q_X5_isSound_88 post (q_X5_isSound_122 post) (q_X5_isSound_130 post)) n_88) x1 σ := hp
      unfold q_X5_isSound_88 at hp
      refine lv_iload_n hx hb dX5_isSound_88 rfl (lv_at hl 1 rfl) ?_
      refine lv_aload_n hx hb dX5_isSound_89 rfl (lv_at hl 0 rfl) ?_
      refine va_get (D := D) (ci := 9) (C := RX5) (T := TX5) (N := 4) hx hb hts hin_X5 hown hK hP 0 rfl rfl 0 (by decide) hf_10 (fun _ h9 => h9) rfl dX5_isSound_90 ?_
      refine va_get (D := D) (ci := 6) (C := RX2) (T := TX2) (N := 11) hx hb hts hin_X2 hown hK hP 1 rfl rfl 10 (by decide) hf_72 (fun _ h9 => h9) rfl dX5_isSound_93 ?_
      refine lv_icmp_ge (tgt := 130) hx hb dX5_isSound_96 (by decide) (fun c60001 => ?_) (fun c60001 => ?_)
      · have hp := hp.1 c60001
        exact B_130  (σ) _ _ _  hP hD hS (lv_sub hl [0] rfl) hp
      · have hp := hp.2 c60001
        refine lv_aload_n hx hb dX5_isSound_99 rfl (lv_at hl 0 rfl) ?_
        refine va_get (D := D) (ci := 9) (C := RX5) (T := TX5) (N := 4) hx hb hts hin_X5 hown hK hP 0 rfl rfl 0 (by decide) hf_10 (fun _ h9 => h9) rfl dX5_isSound_100 ?_
        refine va_get (D := D) (ci := 6) (C := RX2) (T := TX2) (N := 11) hx hb hts hin_X2 hown hK hP 1 rfl rfl 8 (by decide) hf_104 (fun _ h9 => h9) rfl dX5_isSound_103 ?_
        refine lv_iload_n hx hb dX5_isSound_106 rfl (lv_at hl 1 rfl) ?_
        obtain ⟨h60002, hp⟩ := hp
        refine va_zald hx hb hK hP 10 1 rfl rfl h60002 dX5_isSound_107 ?_
        refine lv_if_eq (tgt := 124) hx hb dX5_isSound_108 (by decide) (fun c60003 => ?_) (fun c60003 => ?_)
        · have hp := hp.1 c60003
          exact B_124 x1 (σ) _ _ _  hP hD hS (lv_sub hl [0, 1] rfl) hp
        · have hp := hp.2 c60003
          refine lv_aload_n hx hb dX5_isSound_111 rfl (lv_at hl 0 rfl) ?_
          refine va_get (D := D) (ci := 9) (C := RX5) (T := TX5) (N := 4) hx hb hts hin_X5 hown hK hP 0 rfl rfl 0 (by decide) hf_10 (fun _ h9 => h9) rfl dX5_isSound_112 ?_
          refine lv_iload_n hx hb dX5_isSound_115 rfl (lv_at hl 1 rfl) ?_
          refine fw_ciV (As := [.int x1]) (rest := []) hC (c_X2_counts l D k ad hp) (cwV 1 hts (gA_V A_239 A_92 A_93 A_29 A_89) rfl rfl rfl (by decide +kernel) ⟨Nat.le_of_ble_eq_true rfl, Nat.le_of_ble_eq_true rfl⟩) (va_recv hK hP (ci := 6) (q0 := 1) rfl rfl) rfl hl.1 rfl (Nat.le_of_ble_eq_true rfl) dX5_isSound_116 ⟨Nat.le_of_ble_eq_true rfl, Nat.le_of_ble_eq_true rfl⟩ hP hD hS Jn.same (fun r60004 σ60005 H locs hP hD hS hp => ?_)
          have hP : va_P D vwCl (W5 k ad (σ60005)) H := hP
          have hD : va_D A (W5 k ad (σ60005)) := hD
          refine lv_if_eq (tgt := 124) hx hb dX5_isSound_119 (by decide) (fun c60006 => ?_) (fun c60006 => ?_)
          · have hp := hp.1 c60006
            exact B_124 x1 (σ60005) _ _ _  hP hD hS (lv_sub hl [0, 1] rfl) hp
          · have hp := hp.2 c60006
            exact B_122  (σ60005) _ _ _  hP hD hS (lv_sub hl [] rfl) hp
  have B_86 : ∀  (σ : Mem) (H : Heap) (locs : List Loc) (ls : Array Slot), va_P D vwCl (W5 k ad (σ)) H → va_D A (W5 k ad (σ)) → va_S A s.heap H locs → lv_has ls 5 [(0, .ref (ad 0))] → (q_X5_isSound_86 post)  σ → W p l e rm_X5_isSound s m args below meth c H locs 0 0 Q (F0 m 86 ls []) := by
    intro  σ H locs ls hP hD hS hl hp
    unfold q_X5_isSound_86 at hp
    refine lv_iconst (v := 0) hx hb dX5_isSound_86 (by decide) ?_
    refine lv_istore_n (lv' := [(1, .int 0), (0, .ref (ad 0))]) hx hb dX5_isSound_87 rfl hl (by decide) rfl (fun ls hl => ?_)
    obtain ⟨n9, hp⟩ := hp
    exact B_88 n9 0 (σ) _ _ _  hP hD hS (lv_sub hl [1, 0] rfl) hp
  have B_78 : ∀  (σ : Mem) (H : Heap) (locs : List Loc) (ls : Array Slot), va_P D vwCl (W5 k ad (σ)) H → va_D A (W5 k ad (σ)) → va_S A s.heap H locs → lv_has ls 5 [] → (q_X5_isSound_78 post)  σ → W p l e rm_X5_isSound s m args below meth c H locs 0 0 Q (F0 m 78 ls []) := by
    intro  σ H locs ls hP hD hS hl hp
    unfold q_X5_isSound_78 at hp
    refine lv_iconst (v := 0) hx hb dX5_isSound_78 (by decide) ?_
    exact hret 0 (σ) _ _ _ _ _ _ dX5_isSound_79 (by decide) hP hD hS (Nat.le_of_ble_eq_true rfl) (Nat.le_of_ble_eq_true rfl) hp
  have B_2 : ∀ (n_2 : Nat) (x1 : Int32) (σ : Mem) (H : Heap) (locs : List Loc) (ls : Array Slot), va_P D vwCl (W5 k ad (σ)) H → va_D A (W5 k ad (σ)) → va_S A s.heap H locs → lv_has ls 5 [(0, .ref (ad 0)), (1, .int x1)] → lp_2 (q_X5_isSound_2 post (q_X5_isSound_78 post) (q_X5_isSound_86 post)) n_2 x1 σ → W p l e rm_X5_isSound s m args below meth c H locs 0 0 Q (F0 m 2 ls []) := by
    intro n_2
    induction n_2 with
    | zero => intro x1 σ H locs ls hP hD hS hl hp; exact hp.elim
    | succ n_2 ih_2 =>
      have B_80 : ∀ (x1 : Int32) (σ : Mem) (H : Heap) (locs : List Loc) (ls : Array Slot), va_P D vwCl (W5 k ad (σ)) H → va_D A (W5 k ad (σ)) → va_S A s.heap H locs → lv_has ls 5 [(0, .ref (ad 0)), (1, .int x1)] → (q_X5_isSound_80 post (q_X5_isSound_78 post) (q_X5_isSound_86 post) (lp_2 (q_X5_isSound_2 post (q_X5_isSound_78 post) (q_X5_isSound_86 post)) n_2)) x1 σ → W p l e rm_X5_isSound s m args below meth c H locs 0 0 Q (F0 m 80 ls []) := by
        intro x1 σ H locs ls hP hD hS hl hp
        unfold q_X5_isSound_80 at hp
        obtain ⟨v40001, ev40001⟩ : ∃ z : Int32, z = x1 + 1 := ⟨_, rfl⟩
        have hp := hp v40001 ev40001
        refine lv_iinc (v := v40001) (lv' := [(1, .int v40001), (0, .ref (ad 0))]) hx hb dX5_isSound_80 hl (k := 1) rfl (by rw [ev40001]; rfl) (by decide) rfl (fun ls hl => ?_)
        refine lv_goto (tgt := 2) hx hb dX5_isSound_83 (by decide) ?_
        exact ih_2 v40001 (σ) _ _ _  hP hD hS (lv_sub hl [1, 0] rfl) hp
      have B_63 : ∀ (x1 : Int32) (x2 : Int32) (x4 : Int32) (σ : Mem) (H : Heap) (locs : List Loc) (ls : Array Slot), va_P D vwCl (W5 k ad (σ)) H → va_D A (W5 k ad (σ)) → va_S A s.heap H locs → lv_has ls 5 [(0, .ref (ad 0)), (1, .int x1), (2, .int x2), (4, .int x4)] → (q_X5_isSound_63 post (q_X5_isSound_78 post) (q_X5_isSound_86 post) (lp_2 (q_X5_isSound_2 post (q_X5_isSound_78 post) (q_X5_isSound_86 post)) n_2)) x1 x2 x4 σ → W p l e rm_X5_isSound s m args below meth c H locs 0 0 Q (F0 m 63 ls []) := by
        intro x1 x2 x4 σ H locs ls hP hD hS hl hp
        unfold q_X5_isSound_63 at hp
        refine lv_iload hx hb dX5_isSound_63 (lv_at hl 3 rfl) ?_
        refine lv_iconst (v := (-1)) hx hb dX5_isSound_65 (by decide) ?_
        refine lv_icmp_eq (tgt := 80) hx hb dX5_isSound_66 (by decide) (fun c20001 => ?_) (fun c20001 => ?_)
        · have hp := hp.1 c20001
          exact B_80 x1 (σ) _ _ _  hP hD hS (lv_sub hl [0, 1] rfl) hp
        · have hp := hp.2 c20001
          refine lv_iload_n hx hb dX5_isSound_69 rfl (lv_at hl 2 rfl) ?_
          refine lv_iload hx hb dX5_isSound_70 (lv_at hl 3 rfl) ?_
          refine fw_ciS (As := [.int x2, .int x4]) (rest := []) hC (c_X5_contains l D k hp) (va_cwS 2 hts (gA_S A_257 A_24 A_25 A_14) rfl rfl rfl (by decide +kernel) ⟨Nat.le_of_ble_eq_true rfl, Nat.le_of_ble_eq_true rfl⟩) rfl hl.1 rfl (Nat.le_of_ble_eq_true rfl) dX5_isSound_72 ⟨Nat.le_of_ble_eq_true rfl, Nat.le_of_ble_eq_true rfl⟩ P_nil D_nil hS (Jn.pure (w0 := fun _ : Mem => []) hP hD) (fun r20002 σ20003 H locs hP hD hS hp => ?_)
          have hP : va_P D vwCl (W5 k ad (σ)) H := hP
          have hD : va_D A (W5 k ad (σ)) := hD
          refine lv_if_ne (tgt := 80) hx hb dX5_isSound_75 (by decide) (fun c20004 => ?_) (fun c20004 => ?_)
          · have hp := hp.1 c20004
            exact B_80 x1 (σ) _ _ _  hP hD hS (lv_sub hl [0, 1] rfl) hp
          · have hp := hp.2 c20004
            exact B_78  (σ) _ _ _  hP hD hS (lv_sub hl [] rfl) hp
      intro x1 σ H locs ls hP hD hS hl hp
      have hp : q_X5_isSound_2 post (q_X5_isSound_78 post) (q_X5_isSound_86 post) (lp_2 (q_X5_isSound_2 post (q_X5_isSound_78 post) (q_X5_isSound_86 post)) n_2) x1 σ := hp
      unfold q_X5_isSound_2 at hp
      refine lv_iload_n hx hb dX5_isSound_2 rfl (lv_at hl 1 rfl) ?_
      refine lv_aload_n hx hb dX5_isSound_3 rfl (lv_at hl 0 rfl) ?_
      refine va_get (D := D) (ci := 9) (C := RX5) (T := TX5) (N := 4) hx hb hts hin_X5 hown hK hP 0 rfl rfl 0 (by decide) hf_10 (fun _ h9 => h9) rfl dX5_isSound_4 ?_
      refine va_get (D := D) (ci := 6) (C := RX2) (T := TX2) (N := 11) hx hb hts hin_X2 hown hK hP 1 rfl rfl 9 (by decide) hf_47 (fun _ h9 => h9) rfl dX5_isSound_7 ?_
      refine lv_icmp_ge (tgt := 86) hx hb dX5_isSound_10 (by decide) (fun c10001 => ?_) (fun c10001 => ?_)
      · have hp := hp.1 c10001
        exact B_86  (σ) _ _ _  hP hD hS (lv_sub hl [0] rfl) hp
      · have hp := hp.2 c10001
        refine lv_aload_n hx hb dX5_isSound_13 rfl (lv_at hl 0 rfl) ?_
        refine va_get (D := D) (ci := 9) (C := RX5) (T := TX5) (N := 4) hx hb hts hin_X5 hown hK hP 0 rfl rfl 1 (by decide) hf_21 (fun _ h9 => h9) rfl dX5_isSound_14 ?_
        refine va_get (D := D) (ci := 8) (C := RX4) (T := TX4) (N := 7) hx hb hts hin_X4 hown hK hP 11 rfl rfl 1 (by decide) hf_113 (fun _ h9 => h9) rfl dX5_isSound_17 ?_
        refine va_get (D := D) (ci := 7) (C := RX3) (T := TX3) (N := 3) hx hb hts hin_X3 hown hK hP 12 rfl rfl 1 (by decide) hf_168 (fun _ h9 => h9) rfl dX5_isSound_20 ?_
        refine lv_iload_n hx hb dX5_isSound_23 rfl (lv_at hl 1 rfl) ?_
        obtain ⟨h10002, hp⟩ := hp
        refine va_iald hx hb hK hP 13 0 rfl rfl h10002 dX5_isSound_24 ?_
        refine lv_topi (fun v10003 ev10003 => ?_)
        have hp := hp v10003 ev10003
        refine lv_istore_n (lv' := [(2, .int v10003), (0, .ref (ad 0)), (1, .int x1)]) hx hb dX5_isSound_25 rfl hl (by decide) rfl (fun ls hl => ?_)
        refine lv_aload_n hx hb dX5_isSound_26 rfl (lv_at hl 1 rfl) ?_
        refine va_get (D := D) (ci := 9) (C := RX5) (T := TX5) (N := 4) hx hb hts hin_X5 hown hK hP 0 rfl rfl 1 (by decide) hf_21 (fun _ h9 => h9) rfl dX5_isSound_27 ?_
        refine va_get (D := D) (ci := 8) (C := RX4) (T := TX4) (N := 7) hx hb hts hin_X4 hown hK hP 11 rfl rfl 5 (by decide) hf_128 (fun _ h9 => h9) rfl dX5_isSound_30 ?_
        refine lv_iload_n hx hb dX5_isSound_33 rfl (lv_at hl 2 rfl) ?_
        obtain ⟨h10004, hp⟩ := hp
        refine va_iald hx hb hK hP 22 0 rfl rfl h10004 dX5_isSound_34 ?_
        refine lv_topi (fun v10005 ev10005 => ?_)
        have hp := hp v10005 ev10005
        refine lv_istore_n (lv' := [(3, .int v10005), (2, .int v10003), (0, .ref (ad 0)), (1, .int x1)]) hx hb dX5_isSound_35 rfl hl (by decide) rfl (fun ls hl => ?_)
        refine lv_aload_n hx hb dX5_isSound_36 rfl (lv_at hl 2 rfl) ?_
        refine va_get (D := D) (ci := 9) (C := RX5) (T := TX5) (N := 4) hx hb hts hin_X5 hown hK hP 0 rfl rfl 1 (by decide) hf_21 (fun _ h9 => h9) rfl dX5_isSound_37 ?_
        refine va_get (D := D) (ci := 8) (C := RX4) (T := TX4) (N := 7) hx hb hts hin_X4 hown hK hP 11 rfl rfl 4 (by decide) hf_176 (fun _ h9 => h9) rfl dX5_isSound_40 ?_
        refine va_get (D := D) (ci := 4) (C := RX0) (T := TX0) (N := 7) hx hb hts hin_X0 hown hK hP 18 rfl rfl 3 (by decide) hf_180 (fun _ h9 => h9) rfl dX5_isSound_43 ?_
        refine lv_iload_n hx hb dX5_isSound_46 rfl (lv_at hl 3 rfl) ?_
        obtain ⟨h10006, hp⟩ := hp
        refine va_iald hx hb hK hP 21 0 rfl rfl h10006 dX5_isSound_47 ?_
        refine lv_topi (fun v10007 ev10007 => ?_)
        have hp := hp v10007 ev10007
        refine lv_istore (lv' := [(4, .int v10007), (3, .int v10005), (2, .int v10003), (0, .ref (ad 0)), (1, .int x1)]) hx hb dX5_isSound_48 hl (by decide) rfl (fun ls hl => ?_)
        refine lv_iload_n hx hb dX5_isSound_50 rfl (lv_at hl 1 rfl) ?_
        refine lv_iconst (v := (-1)) hx hb dX5_isSound_51 (by decide) ?_
        refine lv_icmp_eq (tgt := 63) hx hb dX5_isSound_52 (by decide) (fun c10008 => ?_) (fun c10008 => ?_)
        · have hp := hp.1 c10008
          exact B_63 x1 v10003 v10007 (σ) _ _ _  hP hD hS (lv_sub hl [3, 4, 2, 0] rfl) hp
        · have hp := hp.2 c10008
          refine lv_iload_n hx hb dX5_isSound_55 rfl (lv_at hl 2 rfl) ?_
          refine lv_iload_n hx hb dX5_isSound_56 rfl (lv_at hl 1 rfl) ?_
          refine fw_ciS (As := [.int v10003, .int v10005]) (rest := []) hC (c_X5_contains l D k hp) (va_cwS 2 hts (gA_S A_257 A_24 A_25 A_14) rfl rfl rfl (by decide +kernel) ⟨Nat.le_of_ble_eq_true rfl, Nat.le_of_ble_eq_true rfl⟩) rfl hl.1 rfl (Nat.le_of_ble_eq_true rfl) dX5_isSound_57 ⟨Nat.le_of_ble_eq_true rfl, Nat.le_of_ble_eq_true rfl⟩ P_nil D_nil hS (Jn.pure (w0 := fun _ : Mem => []) hP hD) (fun r10009 σ10010 H locs hP hD hS hp => ?_)
          have hP : va_P D vwCl (W5 k ad (σ)) H := hP
          have hD : va_D A (W5 k ad (σ)) := hD
          refine lv_if_eq (tgt := 78) hx hb dX5_isSound_60 (by decide) (fun c10011 => ?_) (fun c10011 => ?_)
          · have hp := hp.1 c10011
            exact B_78  (σ) _ _ _  hP hD hS (lv_sub hl [] rfl) hp
          · have hp := hp.2 c10011
            exact B_63 x1 v10003 v10007 (σ) _ _ _  hP hD hS (lv_sub hl [3, 4, 2, 0] rfl) hp
  refine lv_iconst (v := 0) hx hb dX5_isSound_0 (by decide) ?_
  refine lv_istore_n (lv' := [(1, .int 0), (0, .ref (ad 0))]) hx hb dX5_isSound_1 rfl hl (by decide) rfl (fun ls hl => ?_)
  obtain ⟨n9, hp⟩ := hp
  exact B_2 n9 0 (σ) _ _ _  hP hD hS (lv_sub hl [1, 0] rfl) hp
def q_X5_sumOfMachines_86  (post : Int64 → Mem → Prop)  (x3 : Int64) (σ : Mem) : Prop := post x3 (σ)
def q_X5_sumOfMachines_80  (post : Int64 → Mem → Prop) (kE_86 : Int64 → Mem → Prop) (kc_5 : Int64 → Int32 → Mem → Prop) (x3 : Int64) (x5 : Int32) (σ : Mem) : Prop := (∀ v5001 : Int32, v5001 = x5 + 1 → kc_5 x3 v5001 (σ))
def q_X5_sumOfMachines_46  (post : Int64 → Mem → Prop) (kE_80 : Int64 → Int32 → Mem → Prop) (kc_46 : Int64 → Int32 → Int32 → Mem → Prop) (x3 : Int64) (x5 : Int32) (x6 : Int32) (σ : Mem) : Prop := ((((σ) 1 9) ≤ x6 → kE_80 x3 x5 (σ)) ∧ (¬ (((σ) 1 9) ≤ x6) → (q_X5_has (fun (r4002 : Int32) (σ4003 : Mem) => (∀ v4004 : Int64, v4004 = ((x3 * 31) + (r4002.toInt64)) → (∀ v4005 : Int32, v4005 = x6 + 1 → kc_46 v4004 x5 v4005 (σ4003)))) (fun _ _ => False) x5 x6 (σ))))
def q_X5_sumOfMachines_43  (post : Int64 → Mem → Prop) (kE_86 : Int64 → Mem → Prop) (kc_5 : Int64 → Int32 → Mem → Prop) (x3 : Int64) (x5 : Int32) (σ : Mem) : Prop := (∃ n9 : Nat, lp_4 (q_X5_sumOfMachines_46 post (q_X5_sumOfMachines_80 post kE_86 kc_5)) n9 x3 x5 0 (σ))
def q_X5_sumOfMachines_15  (post : Int64 → Mem → Prop) (kE_43 : Int64 → Int32 → Mem → Prop) (kc_15 : Int64 → Int32 → Int32 → Mem → Prop) (x3 : Int64) (x5 : Int32) (x6 : Int32) (σ : Mem) : Prop := ((2 < x6 → kE_43 x3 x5 (σ)) ∧ (¬ (2 < x6) → (q_X5_ofMachine (fun (r2002 : Int32) (σ2003 : Mem) => (∀ v2004 : Int64, v2004 = ((x3 * 31) + (r2002.toInt64)) → (∀ v2005 : Int32, v2005 = x6 + 1 → kc_15 v2004 x5 v2005 (σ2003)))) (fun _ _ => False) x5 x6 (σ))))
def q_X5_sumOfMachines_5  (post : Int64 → Mem → Prop) (kE_86 : Int64 → Mem → Prop) (kc_5 : Int64 → Int32 → Mem → Prop) (x3 : Int64) (x5 : Int32) (σ : Mem) : Prop := ((6 ≤ x5 → kE_86 x3 (σ)) ∧ (¬ (6 ≤ x5) → (∃ n9 : Nat, lp_4 (q_X5_sumOfMachines_15 post (q_X5_sumOfMachines_43 post kE_86 kc_5)) n9 x3 x5 0 (σ))))
def q_X5_sumOfMachines  (post : Int64 → Mem → Prop) (p1 : Int64) (σ : Mem) : Prop := (∃ n9 : Nat, lp_3 (q_X5_sumOfMachines_5 post (q_X5_sumOfMachines_86 post)) n9 p1 0 (σ))
abbrev rm_X5_sumOfMachines : Room := { frames := 7, cells := 0, slots := 0, locals := 222 }
abbrev wq_X5_sumOfMachines : List Cond := Cond.code yX5_sumOfMachines cX5_sumOfMachines 7 (some .long) :: wALL
set_option maxHeartbeats 4000000 in
set_option maxRecDepth 100000 in
theorem c_X5_sumOfMachines (l : Launch) (D : va_G) (k ad : Nat → Nat) {sz : Nat} {σ : Mem} {p1 : Int64} {post : Int64 → Mem → Prop} (hp : q_X5_sumOfMachines post p1 σ) : Met l yX5_sumOfMachines wq_X5_sumOfMachines rm_X5_sumOfMachines (va_Pc [.ref (ad 0), .long p1] (Pw D k (W5 k ad (σ)) sz)) (va_Ql post (fun u => Bw D (W5 k ad (σ)) sz (W5 k ad u)) (va_A (W5 k ad (σ)) sz)) 0 0 (va_A (W5 k ad (σ)) sz) := by
  refine fw_l (wf := fun u : Mem => W5 k ad u) (by decide) rfl (Nat.le_of_ble_eq_true rfl) ?_
  intro p e s m args below meth c A Q ls hC hP hD hl hret
  obtain ⟨⟨hx, hb, hml, hown, hts⟩, hG, hA⟩ := id hC
  have hK := hG.1
  have hS : va_S A s.heap s.heap [] := va_S.rf
  have hin_X5 : ∀ w ∈ u_ws RX5 TX5 4, w ∈ wq_X5_sumOfMachines := fun w h => List.mem_cons_of_mem _ (iU_X5 w h)
  have hf_10 := hts _ (List.mem_cons_of_mem _ A_183)
  have hin_X2 : ∀ w ∈ u_ws RX2 TX2 11, w ∈ wq_X5_sumOfMachines := fun w h => List.mem_cons_of_mem _ (iU_X2 w h)
  have hf_47 := hts _ (List.mem_cons_of_mem _ A_202)
  have hl : lv_has ls 7 [(0, .ref (ad 0)), (1, .long p1)] := hl
  have hown : s.vm.findClass RX5 = some m.cls := hown
  unfold q_X5_sumOfMachines at hp
  have B_86 : ∀ (x3 : Int64) (σ : Mem) (H : Heap) (locs : List Loc) (ls : Array Slot), va_P D vwCl (W5 k ad (σ)) H → va_D A (W5 k ad (σ)) → va_S A s.heap H locs → lv_has ls 7 [(3, .long x3)] → (q_X5_sumOfMachines_86 post) x3 σ → W p l e rm_X5_sumOfMachines s m args below meth c H locs 0 0 Q (F0 m 86 ls []) := by
    intro x3 σ H locs ls hP hD hS hl hp
    unfold q_X5_sumOfMachines_86 at hp
    refine lv_lload_n hx hb dX5_sumOfMachines_86 rfl (lv_at hl 0 rfl) ?_
    exact hret x3 (σ) _ _ _ _ _ _ dX5_sumOfMachines_87 hP hD hS (Nat.le_of_ble_eq_true rfl) (Nat.le_of_ble_eq_true rfl) hp
  have B_5 : ∀ (n_5 : Nat) (x3 : Int64) (x5 : Int32) (σ : Mem) (H : Heap) (locs : List Loc) (ls : Array Slot), va_P D vwCl (W5 k ad (σ)) H → va_D A (W5 k ad (σ)) → va_S A s.heap H locs → lv_has ls 7 [(0, .ref (ad 0)), (3, .long x3), (5, .int x5)] → lp_3 (q_X5_sumOfMachines_5 post (q_X5_sumOfMachines_86 post)) n_5 x3 x5 σ → W p l e rm_X5_sumOfMachines s m args below meth c H locs 0 0 Q (F0 m 5 ls []) := by
    intro n_5
    induction n_5 with
    | zero => intro x3 x5 σ H locs ls hP hD hS hl hp; exact hp.elim
    | succ n_5 ih_5 =>
      have B_80 : ∀ (x3 : Int64) (x5 : Int32) (σ : Mem) (H : Heap) (locs : List Loc) (ls : Array Slot), va_P D vwCl (W5 k ad (σ)) H → va_D A (W5 k ad (σ)) → va_S A s.heap H locs → lv_has ls 7 [(0, .ref (ad 0)), (3, .long x3), (5, .int x5)] → (q_X5_sumOfMachines_80 post (q_X5_sumOfMachines_86 post) (lp_3 (q_X5_sumOfMachines_5 post (q_X5_sumOfMachines_86 post)) n_5)) x3 x5 σ → W p l e rm_X5_sumOfMachines s m args below meth c H locs 0 0 Q (F0 m 80 ls []) := by
        intro x3 x5 σ H locs ls hP hD hS hl hp
        unfold q_X5_sumOfMachines_80 at hp
        obtain ⟨v50001, ev50001⟩ : ∃ z : Int32, z = x5 + 1 := ⟨_, rfl⟩
        have hp := hp v50001 ev50001
        refine lv_iinc (v := v50001) (lv' := [(5, .int v50001), (0, .ref (ad 0)), (3, .long x3)]) hx hb dX5_sumOfMachines_80 hl (k := 2) rfl (by rw [ev50001]; rfl) (by decide) rfl (fun ls hl => ?_)
        refine lv_goto (tgt := 5) hx hb dX5_sumOfMachines_83 (by decide) ?_
        exact ih_5 x3 v50001 (σ) _ _ _  hP hD hS (lv_sub hl [1, 2, 0] rfl) hp
      have B_46 : ∀ (n_46 : Nat) (x3 : Int64) (x5 : Int32) (x6 : Int32) (σ : Mem) (H : Heap) (locs : List Loc) (ls : Array Slot), va_P D vwCl (W5 k ad (σ)) H → va_D A (W5 k ad (σ)) → va_S A s.heap H locs → lv_has ls 7 [(0, .ref (ad 0)), (3, .long x3), (5, .int x5), (6, .int x6)] → lp_4 (q_X5_sumOfMachines_46 post (q_X5_sumOfMachines_80 post (q_X5_sumOfMachines_86 post) (lp_3 (q_X5_sumOfMachines_5 post (q_X5_sumOfMachines_86 post)) n_5))) n_46 x3 x5 x6 σ → W p l e rm_X5_sumOfMachines s m args below meth c H locs 0 0 Q (F0 m 46 ls []) := by
        intro n_46
        induction n_46 with
        | zero => intro x3 x5 x6 σ H locs ls hP hD hS hl hp; exact hp.elim
        | succ n_46 ih_46 =>
          intro x3 x5 x6 σ H locs ls hP hD hS hl hp
          have hp : q_X5_sumOfMachines_46 post (q_X5_sumOfMachines_80 post (q_X5_sumOfMachines_86 post) (lp_3 (q_X5_sumOfMachines_5 post (q_X5_sumOfMachines_86 post)) n_5)) (lp_4 (q_X5_sumOfMachines_46 post (q_X5_sumOfMachines_80 post (q_X5_sumOfMachines_86 post) (lp_3 (q_X5_sumOfMachines_5 post (q_X5_sumOfMachines_86 post)) n_5))) n_46) x3 x5 x6 σ := hp
          unfold q_X5_sumOfMachines_46 at hp
          refine lv_iload hx hb dX5_sumOfMachines_46 (lv_at hl 3 rfl) ?_
          refine lv_aload_n hx hb dX5_sumOfMachines_48 rfl (lv_at hl 0 rfl) ?_
          refine va_get (D := D) (ci := 9) (C := RX5) (T := TX5) (N := 4) hx hb hts hin_X5 hown hK hP 0 rfl rfl 0 (by decide) hf_10 (fun _ h9 => h9) rfl dX5_sumOfMachines_49 ?_
          refine va_get (D := D) (ci := 6) (C := RX2) (T := TX2) (N := 11) hx hb hts hin_X2 hown hK hP 1 rfl rfl 9 (by decide) hf_47 (fun _ h9 => h9) rfl dX5_sumOfMachines_52 ?_
          refine lv_icmp_ge (tgt := 80) hx hb dX5_sumOfMachines_55 (by decide) (fun c40001 => ?_) (fun c40001 => ?_)
          · have hp := hp.1 c40001
            exact B_80 x3 x5 (σ) _ _ _  hP hD hS (lv_sub hl [0, 1, 2] rfl) hp
          · have hp := hp.2 c40001
            refine lv_lload_n hx hb dX5_sumOfMachines_58 rfl (lv_at hl 1 rfl) ?_
            refine lv_ldc2 (v := 31) hx hb hown (hts _ (List.mem_cons_of_mem _ A_526)) dX5_sumOfMachines_59 ?_
            refine lv_lmul hx hb dX5_sumOfMachines_62 ?_
            refine lv_aload_n hx hb dX5_sumOfMachines_63 rfl (lv_at hl 0 rfl) ?_
            refine lv_iload hx hb dX5_sumOfMachines_64 (lv_at hl 2 rfl) ?_
            refine lv_iload hx hb dX5_sumOfMachines_66 (lv_at hl 3 rfl) ?_
            refine fw_ciV (As := [.int x5, .int x6]) (rest := [.long (x3 * 31)]) hC (c0_X5_has l D k ad hp) (cwV 2 hts (gA_V A_530 A_531 A_532 A_25 A_291) rfl rfl rfl (by decide +kernel) ⟨Nat.le_of_ble_eq_true rfl, Nat.le_of_ble_eq_true rfl⟩) (va_recv hK hP (ci := 9) (q0 := 0) rfl rfl) rfl hl.1 rfl (Nat.le_of_ble_eq_true rfl) dX5_sumOfMachines_68 ⟨Nat.le_of_ble_eq_true rfl, Nat.le_of_ble_eq_true rfl⟩ hP hD hS Jn.same (fun r40002 σ40003 H locs hP hD hS hp => ?_)
            have hP : va_P D vwCl (W5 k ad (σ40003)) H := hP
            have hD : va_D A (W5 k ad (σ40003)) := hD
            refine lv_i2l (v := r40002.toInt64) hx hb dX5_sumOfMachines_71 rfl ?_
            refine lv_ladd hx hb dX5_sumOfMachines_72 ?_
            refine lv_topl (fun v40004 ev40004 => ?_)
            have hp := hp v40004 ev40004
            refine lv_lstore_n (lv' := [(3, .long v40004), (0, .ref (ad 0)), (5, .int x5), (6, .int x6)]) hx hb dX5_sumOfMachines_73 rfl hl (by decide) rfl (fun ls hl => ?_)
            obtain ⟨v40005, ev40005⟩ : ∃ z : Int32, z = x6 + 1 := ⟨_, rfl⟩
            have hp := hp v40005 ev40005
            refine lv_iinc (v := v40005) (lv' := [(6, .int v40005), (3, .long v40004), (0, .ref (ad 0)), (5, .int x5)]) hx hb dX5_sumOfMachines_74 hl (k := 3) rfl (by rw [ev40005]; rfl) (by decide) rfl (fun ls hl => ?_)
            refine lv_goto (tgt := 46) hx hb dX5_sumOfMachines_77 (by decide) ?_
            exact ih_46 v40004 x5 v40005 (σ40003) _ _ _  hP hD hS (lv_sub hl [2, 1, 3, 0] rfl) hp
      have B_43 : ∀ (x3 : Int64) (x5 : Int32) (σ : Mem) (H : Heap) (locs : List Loc) (ls : Array Slot), va_P D vwCl (W5 k ad (σ)) H → va_D A (W5 k ad (σ)) → va_S A s.heap H locs → lv_has ls 7 [(0, .ref (ad 0)), (3, .long x3), (5, .int x5)] → (q_X5_sumOfMachines_43 post (q_X5_sumOfMachines_86 post) (lp_3 (q_X5_sumOfMachines_5 post (q_X5_sumOfMachines_86 post)) n_5)) x3 x5 σ → W p l e rm_X5_sumOfMachines s m args below meth c H locs 0 0 Q (F0 m 43 ls []) := by
        intro x3 x5 σ H locs ls hP hD hS hl hp
        unfold q_X5_sumOfMachines_43 at hp
        refine lv_iconst (v := 0) hx hb dX5_sumOfMachines_43 (by decide) ?_
        refine lv_istore (lv' := [(6, .int 0), (0, .ref (ad 0)), (3, .long x3), (5, .int x5)]) hx hb dX5_sumOfMachines_44 hl (by decide) rfl (fun ls hl => ?_)
        obtain ⟨n9, hp⟩ := hp
        exact B_46 n9 x3 x5 0 (σ) _ _ _  hP hD hS (lv_sub hl [1, 2, 3, 0] rfl) hp
      have B_15 : ∀ (n_15 : Nat) (x3 : Int64) (x5 : Int32) (x6 : Int32) (σ : Mem) (H : Heap) (locs : List Loc) (ls : Array Slot), va_P D vwCl (W5 k ad (σ)) H → va_D A (W5 k ad (σ)) → va_S A s.heap H locs → lv_has ls 7 [(0, .ref (ad 0)), (3, .long x3), (5, .int x5), (6, .int x6)] → lp_4 (q_X5_sumOfMachines_15 post (q_X5_sumOfMachines_43 post (q_X5_sumOfMachines_86 post) (lp_3 (q_X5_sumOfMachines_5 post (q_X5_sumOfMachines_86 post)) n_5))) n_15 x3 x5 x6 σ → W p l e rm_X5_sumOfMachines s m args below meth c H locs 0 0 Q (F0 m 15 ls []) := by
        intro n_15
        induction n_15 with
        | zero => intro x3 x5 x6 σ H locs ls hP hD hS hl hp; exact hp.elim
        | succ n_15 ih_15 =>
          intro x3 x5 x6 σ H locs ls hP hD hS hl hp
          have hp : q_X5_sumOfMachines_15 post (q_X5_sumOfMachines_43 post (q_X5_sumOfMachines_86 post) (lp_3 (q_X5_sumOfMachines_5 post (q_X5_sumOfMachines_86 post)) n_5)) (lp_4 (q_X5_sumOfMachines_15 post (q_X5_sumOfMachines_43 post (q_X5_sumOfMachines_86 post) (lp_3 (q_X5_sumOfMachines_5 post (q_X5_sumOfMachines_86 post)) n_5))) n_15) x3 x5 x6 σ := hp
          unfold q_X5_sumOfMachines_15 at hp
          refine lv_iload hx hb dX5_sumOfMachines_15 (lv_at hl 3 rfl) ?_
          refine lv_iconst (v := 2) hx hb dX5_sumOfMachines_17 (by decide) ?_
          refine lv_icmp_gt (tgt := 43) hx hb dX5_sumOfMachines_18 (by decide) (fun c20001 => ?_) (fun c20001 => ?_)
          · have hp := hp.1 c20001
            exact B_43 x3 x5 (σ) _ _ _  hP hD hS (lv_sub hl [0, 1, 2] rfl) hp
          · have hp := hp.2 c20001
            refine lv_lload_n hx hb dX5_sumOfMachines_21 rfl (lv_at hl 1 rfl) ?_
            refine lv_ldc2 (v := 31) hx hb hown (hts _ (List.mem_cons_of_mem _ A_526)) dX5_sumOfMachines_22 ?_
            refine lv_lmul hx hb dX5_sumOfMachines_25 ?_
            refine lv_aload_n hx hb dX5_sumOfMachines_26 rfl (lv_at hl 0 rfl) ?_
            refine lv_iload hx hb dX5_sumOfMachines_27 (lv_at hl 2 rfl) ?_
            refine lv_iload hx hb dX5_sumOfMachines_29 (lv_at hl 3 rfl) ?_
            refine fw_ciV (As := [.int x5, .int x6]) (rest := [.long (x3 * 31)]) hC (c0_X5_ofMachine l D k ad hp) (cwV 2 hts (gA_V A_527 A_528 A_529 A_25 A_290) rfl rfl rfl (by decide +kernel) ⟨Nat.le_of_ble_eq_true rfl, Nat.le_of_ble_eq_true rfl⟩) (va_recv hK hP (ci := 9) (q0 := 0) rfl rfl) rfl hl.1 rfl (Nat.le_of_ble_eq_true rfl) dX5_sumOfMachines_31 ⟨Nat.le_of_ble_eq_true rfl, Nat.le_of_ble_eq_true rfl⟩ hP hD hS Jn.same (fun r20002 σ20003 H locs hP hD hS hp => ?_)
            have hP : va_P D vwCl (W5 k ad (σ20003)) H := hP
            have hD : va_D A (W5 k ad (σ20003)) := hD
            refine lv_i2l (v := r20002.toInt64) hx hb dX5_sumOfMachines_34 rfl ?_
            refine lv_ladd hx hb dX5_sumOfMachines_35 ?_
            refine lv_topl (fun v20004 ev20004 => ?_)
            have hp := hp v20004 ev20004
            refine lv_lstore_n (lv' := [(3, .long v20004), (0, .ref (ad 0)), (5, .int x5), (6, .int x6)]) hx hb dX5_sumOfMachines_36 rfl hl (by decide) rfl (fun ls hl => ?_)
            obtain ⟨v20005, ev20005⟩ : ∃ z : Int32, z = x6 + 1 := ⟨_, rfl⟩
            have hp := hp v20005 ev20005
            refine lv_iinc (v := v20005) (lv' := [(6, .int v20005), (3, .long v20004), (0, .ref (ad 0)), (5, .int x5)]) hx hb dX5_sumOfMachines_37 hl (k := 3) rfl (by rw [ev20005]; rfl) (by decide) rfl (fun ls hl => ?_)
            refine lv_goto (tgt := 15) hx hb dX5_sumOfMachines_40 (by decide) ?_
            exact ih_15 v20004 x5 v20005 (σ20003) _ _ _  hP hD hS (lv_sub hl [2, 1, 3, 0] rfl) hp
      intro x3 x5 σ H locs ls hP hD hS hl hp
      have hp : q_X5_sumOfMachines_5 post (q_X5_sumOfMachines_86 post) (lp_3 (q_X5_sumOfMachines_5 post (q_X5_sumOfMachines_86 post)) n_5) x3 x5 σ := hp
      unfold q_X5_sumOfMachines_5 at hp
      refine lv_iload hx hb dX5_sumOfMachines_5 (lv_at hl 2 rfl) ?_
      refine lv_bipush (v := 6) hx hb dX5_sumOfMachines_7 (by decide) ?_
      refine lv_icmp_ge (tgt := 86) hx hb dX5_sumOfMachines_9 (by decide) (fun c10001 => ?_) (fun c10001 => ?_)
      · have hp := hp.1 c10001
        exact B_86 x3 (σ) _ _ _  hP hD hS (lv_sub hl [1] rfl) hp
      · have hp := hp.2 c10001
        refine lv_iconst (v := 0) hx hb dX5_sumOfMachines_12 (by decide) ?_
        refine lv_istore (lv' := [(6, .int 0), (0, .ref (ad 0)), (3, .long x3), (5, .int x5)]) hx hb dX5_sumOfMachines_13 hl (by decide) rfl (fun ls hl => ?_)
        obtain ⟨n9, hp⟩ := hp
        exact B_15 n9 x3 x5 0 (σ) _ _ _  hP hD hS (lv_sub hl [1, 2, 3, 0] rfl) hp
  refine lv_lload_n hx hb dX5_sumOfMachines_0 rfl (lv_at hl 1 rfl) ?_
  refine lv_lstore_n (lv' := [(3, .long p1), (0, .ref (ad 0)), (1, .long p1)]) hx hb dX5_sumOfMachines_1 rfl hl (by decide) rfl (fun ls hl => ?_)
  refine lv_iconst (v := 0) hx hb dX5_sumOfMachines_2 (by decide) ?_
  refine lv_istore (lv' := [(5, .int 0), (3, .long p1), (0, .ref (ad 0)), (1, .long p1)]) hx hb dX5_sumOfMachines_3 hl (by decide) rfl (fun ls hl => ?_)
  obtain ⟨n9, hp⟩ := hp
  exact B_5 n9 p1 0 (σ) _ _ _  hP hD hS (lv_sub hl [2, 1, 0] rfl) hp
def q_X5_sumOfCommits_60  (post : Int64 → Mem → Prop)  (x3 : Int64) (σ : Mem) : Prop := post x3 (σ)
def q_X5_sumOfCommits_54  (post : Int64 → Mem → Prop) (kE_60 : Int64 → Mem → Prop) (kc_5 : Int64 → Int32 → Mem → Prop) (x3 : Int64) (x5 : Int32) (σ : Mem) : Prop := (∀ v3001 : Int32, v3001 = x5 + 1 → kc_5 x3 v3001 (σ))
def q_X5_sumOfCommits_20  (post : Int64 → Mem → Prop) (kE_54 : Int64 → Int32 → Mem → Prop) (kc_20 : Int64 → Int32 → Int32 → Mem → Prop) (x3 : Int64) (x5 : Int32) (x6 : Int32) (σ : Mem) : Prop := ((((σ) 1 9) ≤ x6 → kE_54 x3 x5 (σ)) ∧ (¬ (((σ) 1 9) ≤ x6) → (q_X5_ofCommit (fun (r2002 : Int32) (σ2003 : Mem) => (∀ v2004 : Int64, v2004 = ((x3 * 31) + (r2002.toInt64)) → (∀ v2005 : Int32, v2005 = x6 + 1 → kc_20 v2004 x5 v2005 (σ2003)))) (fun _ _ => False) x5 x6 (σ))))
def q_X5_sumOfCommits_5  (post : Int64 → Mem → Prop) (kE_60 : Int64 → Mem → Prop) (kc_5 : Int64 → Int32 → Mem → Prop) (x3 : Int64) (x5 : Int32) (σ : Mem) : Prop := ((((σ) 23 3) ≤ x5 → kE_60 x3 (σ)) ∧ (¬ (((σ) 23 3) ≤ x5) → (∃ n9 : Nat, lp_4 (q_X5_sumOfCommits_20 post (q_X5_sumOfCommits_54 post kE_60 kc_5)) n9 x3 x5 0 (σ))))
def q_X5_sumOfCommits  (post : Int64 → Mem → Prop) (p1 : Int64) (σ : Mem) : Prop := (∃ n9 : Nat, lp_3 (q_X5_sumOfCommits_5 post (q_X5_sumOfCommits_60 post)) n9 p1 0 (σ))
abbrev rm_X5_sumOfCommits : Room := { frames := 7, cells := 0, slots := 0, locals := 222 }
abbrev wq_X5_sumOfCommits : List Cond := Cond.code yX5_sumOfCommits cX5_sumOfCommits 7 (some .long) :: wALL
set_option maxHeartbeats 4000000 in
set_option maxRecDepth 100000 in
theorem c_X5_sumOfCommits (l : Launch) (D : va_G) (k ad : Nat → Nat) {sz : Nat} {σ : Mem} {p1 : Int64} {post : Int64 → Mem → Prop} (hp : q_X5_sumOfCommits post p1 σ) : Met l yX5_sumOfCommits wq_X5_sumOfCommits rm_X5_sumOfCommits (va_Pc [.ref (ad 0), .long p1] (Pw D k (W5 k ad (σ)) sz)) (va_Ql post (fun u => Bw D (W5 k ad (σ)) sz (W5 k ad u)) (va_A (W5 k ad (σ)) sz)) 0 0 (va_A (W5 k ad (σ)) sz) := by
  refine fw_l (wf := fun u : Mem => W5 k ad u) (by decide) rfl (Nat.le_of_ble_eq_true rfl) ?_
  intro p e s m args below meth c A Q ls hC hP hD hl hret
  obtain ⟨⟨hx, hb, hml, hown, hts⟩, hG, hA⟩ := id hC
  have hK := hG.1
  have hS : va_S A s.heap s.heap [] := va_S.rf
  have hin_X5 : ∀ w ∈ u_ws RX5 TX5 4, w ∈ wq_X5_sumOfCommits := fun w h => List.mem_cons_of_mem _ (iU_X5 w h)
  have hf_28 := hts _ (List.mem_cons_of_mem _ A_189)
  have hin_X1 : ∀ w ∈ u_ws RX1 TX1 4, w ∈ wq_X5_sumOfCommits := fun w h => List.mem_cons_of_mem _ (iU_X1 w h)
  have hf_123 := hts _ (List.mem_cons_of_mem _ A_248)
  have hf_10 := hts _ (List.mem_cons_of_mem _ A_183)
  have hin_X2 : ∀ w ∈ u_ws RX2 TX2 11, w ∈ wq_X5_sumOfCommits := fun w h => List.mem_cons_of_mem _ (iU_X2 w h)
  have hf_47 := hts _ (List.mem_cons_of_mem _ A_202)
  have hl : lv_has ls 7 [(0, .ref (ad 0)), (1, .long p1)] := hl
  have hown : s.vm.findClass RX5 = some m.cls := hown
  unfold q_X5_sumOfCommits at hp
  have B_60 : ∀ (x3 : Int64) (σ : Mem) (H : Heap) (locs : List Loc) (ls : Array Slot), va_P D vwCl (W5 k ad (σ)) H → va_D A (W5 k ad (σ)) → va_S A s.heap H locs → lv_has ls 7 [(3, .long x3)] → (q_X5_sumOfCommits_60 post) x3 σ → W p l e rm_X5_sumOfCommits s m args below meth c H locs 0 0 Q (F0 m 60 ls []) := by
    intro x3 σ H locs ls hP hD hS hl hp
    unfold q_X5_sumOfCommits_60 at hp
    refine lv_lload_n hx hb dX5_sumOfCommits_60 rfl (lv_at hl 0 rfl) ?_
    exact hret x3 (σ) _ _ _ _ _ _ dX5_sumOfCommits_61 hP hD hS (Nat.le_of_ble_eq_true rfl) (Nat.le_of_ble_eq_true rfl) hp
  have B_5 : ∀ (n_5 : Nat) (x3 : Int64) (x5 : Int32) (σ : Mem) (H : Heap) (locs : List Loc) (ls : Array Slot), va_P D vwCl (W5 k ad (σ)) H → va_D A (W5 k ad (σ)) → va_S A s.heap H locs → lv_has ls 7 [(0, .ref (ad 0)), (3, .long x3), (5, .int x5)] → lp_3 (q_X5_sumOfCommits_5 post (q_X5_sumOfCommits_60 post)) n_5 x3 x5 σ → W p l e rm_X5_sumOfCommits s m args below meth c H locs 0 0 Q (F0 m 5 ls []) := by
    intro n_5
    induction n_5 with
    | zero => intro x3 x5 σ H locs ls hP hD hS hl hp; exact hp.elim
    | succ n_5 ih_5 =>
      have B_54 : ∀ (x3 : Int64) (x5 : Int32) (σ : Mem) (H : Heap) (locs : List Loc) (ls : Array Slot), va_P D vwCl (W5 k ad (σ)) H → va_D A (W5 k ad (σ)) → va_S A s.heap H locs → lv_has ls 7 [(0, .ref (ad 0)), (3, .long x3), (5, .int x5)] → (q_X5_sumOfCommits_54 post (q_X5_sumOfCommits_60 post) (lp_3 (q_X5_sumOfCommits_5 post (q_X5_sumOfCommits_60 post)) n_5)) x3 x5 σ → W p l e rm_X5_sumOfCommits s m args below meth c H locs 0 0 Q (F0 m 54 ls []) := by
        intro x3 x5 σ H locs ls hP hD hS hl hp
        unfold q_X5_sumOfCommits_54 at hp
        obtain ⟨v30001, ev30001⟩ : ∃ z : Int32, z = x5 + 1 := ⟨_, rfl⟩
        have hp := hp v30001 ev30001
        refine lv_iinc (v := v30001) (lv' := [(5, .int v30001), (0, .ref (ad 0)), (3, .long x3)]) hx hb dX5_sumOfCommits_54 hl (k := 2) rfl (by rw [ev30001]; rfl) (by decide) rfl (fun ls hl => ?_)
        refine lv_goto (tgt := 5) hx hb dX5_sumOfCommits_57 (by decide) ?_
        exact ih_5 x3 v30001 (σ) _ _ _  hP hD hS (lv_sub hl [1, 2, 0] rfl) hp
      have B_20 : ∀ (n_20 : Nat) (x3 : Int64) (x5 : Int32) (x6 : Int32) (σ : Mem) (H : Heap) (locs : List Loc) (ls : Array Slot), va_P D vwCl (W5 k ad (σ)) H → va_D A (W5 k ad (σ)) → va_S A s.heap H locs → lv_has ls 7 [(0, .ref (ad 0)), (3, .long x3), (5, .int x5), (6, .int x6)] → lp_4 (q_X5_sumOfCommits_20 post (q_X5_sumOfCommits_54 post (q_X5_sumOfCommits_60 post) (lp_3 (q_X5_sumOfCommits_5 post (q_X5_sumOfCommits_60 post)) n_5))) n_20 x3 x5 x6 σ → W p l e rm_X5_sumOfCommits s m args below meth c H locs 0 0 Q (F0 m 20 ls []) := by
        intro n_20
        induction n_20 with
        | zero => intro x3 x5 x6 σ H locs ls hP hD hS hl hp; exact hp.elim
        | succ n_20 ih_20 =>
          intro x3 x5 x6 σ H locs ls hP hD hS hl hp
          have hp : q_X5_sumOfCommits_20 post (q_X5_sumOfCommits_54 post (q_X5_sumOfCommits_60 post) (lp_3 (q_X5_sumOfCommits_5 post (q_X5_sumOfCommits_60 post)) n_5)) (lp_4 (q_X5_sumOfCommits_20 post (q_X5_sumOfCommits_54 post (q_X5_sumOfCommits_60 post) (lp_3 (q_X5_sumOfCommits_5 post (q_X5_sumOfCommits_60 post)) n_5))) n_20) x3 x5 x6 σ := hp
          unfold q_X5_sumOfCommits_20 at hp
          refine lv_iload hx hb dX5_sumOfCommits_20 (lv_at hl 3 rfl) ?_
          refine lv_aload_n hx hb dX5_sumOfCommits_22 rfl (lv_at hl 0 rfl) ?_
          refine va_get (D := D) (ci := 9) (C := RX5) (T := TX5) (N := 4) hx hb hts hin_X5 hown hK hP 0 rfl rfl 0 (by decide) hf_10 (fun _ h9 => h9) rfl dX5_sumOfCommits_23 ?_
          refine va_get (D := D) (ci := 6) (C := RX2) (T := TX2) (N := 11) hx hb hts hin_X2 hown hK hP 1 rfl rfl 9 (by decide) hf_47 (fun _ h9 => h9) rfl dX5_sumOfCommits_26 ?_
          refine lv_icmp_ge (tgt := 54) hx hb dX5_sumOfCommits_29 (by decide) (fun c20001 => ?_) (fun c20001 => ?_)
          · have hp := hp.1 c20001
            exact B_54 x3 x5 (σ) _ _ _  hP hD hS (lv_sub hl [0, 1, 2] rfl) hp
          · have hp := hp.2 c20001
            refine lv_lload_n hx hb dX5_sumOfCommits_32 rfl (lv_at hl 1 rfl) ?_
            refine lv_ldc2 (v := 31) hx hb hown (hts _ (List.mem_cons_of_mem _ A_526)) dX5_sumOfCommits_33 ?_
            refine lv_lmul hx hb dX5_sumOfCommits_36 ?_
            refine lv_aload_n hx hb dX5_sumOfCommits_37 rfl (lv_at hl 0 rfl) ?_
            refine lv_iload hx hb dX5_sumOfCommits_38 (lv_at hl 2 rfl) ?_
            refine lv_iload hx hb dX5_sumOfCommits_40 (lv_at hl 3 rfl) ?_
            refine fw_ciV (As := [.int x5, .int x6]) (rest := [.long (x3 * 31)]) hC (c0_X5_ofCommit l D k ad hp) (cwV 2 hts (gA_V A_535 A_536 A_537 A_25 A_292) rfl rfl rfl (by decide +kernel) ⟨Nat.le_of_ble_eq_true rfl, Nat.le_of_ble_eq_true rfl⟩) (va_recv hK hP (ci := 9) (q0 := 0) rfl rfl) rfl hl.1 rfl (Nat.le_of_ble_eq_true rfl) dX5_sumOfCommits_42 ⟨Nat.le_of_ble_eq_true rfl, Nat.le_of_ble_eq_true rfl⟩ hP hD hS Jn.same (fun r20002 σ20003 H locs hP hD hS hp => ?_)
            have hP : va_P D vwCl (W5 k ad (σ20003)) H := hP
            have hD : va_D A (W5 k ad (σ20003)) := hD
            refine lv_i2l (v := r20002.toInt64) hx hb dX5_sumOfCommits_45 rfl ?_
            refine lv_ladd hx hb dX5_sumOfCommits_46 ?_
            refine lv_topl (fun v20004 ev20004 => ?_)
            have hp := hp v20004 ev20004
            refine lv_lstore_n (lv' := [(3, .long v20004), (0, .ref (ad 0)), (5, .int x5), (6, .int x6)]) hx hb dX5_sumOfCommits_47 rfl hl (by decide) rfl (fun ls hl => ?_)
            obtain ⟨v20005, ev20005⟩ : ∃ z : Int32, z = x6 + 1 := ⟨_, rfl⟩
            have hp := hp v20005 ev20005
            refine lv_iinc (v := v20005) (lv' := [(6, .int v20005), (3, .long v20004), (0, .ref (ad 0)), (5, .int x5)]) hx hb dX5_sumOfCommits_48 hl (k := 3) rfl (by rw [ev20005]; rfl) (by decide) rfl (fun ls hl => ?_)
            refine lv_goto (tgt := 20) hx hb dX5_sumOfCommits_51 (by decide) ?_
            exact ih_20 v20004 x5 v20005 (σ20003) _ _ _  hP hD hS (lv_sub hl [2, 1, 3, 0] rfl) hp
      intro x3 x5 σ H locs ls hP hD hS hl hp
      have hp : q_X5_sumOfCommits_5 post (q_X5_sumOfCommits_60 post) (lp_3 (q_X5_sumOfCommits_5 post (q_X5_sumOfCommits_60 post)) n_5) x3 x5 σ := hp
      unfold q_X5_sumOfCommits_5 at hp
      refine lv_iload hx hb dX5_sumOfCommits_5 (lv_at hl 2 rfl) ?_
      refine lv_aload_n hx hb dX5_sumOfCommits_7 rfl (lv_at hl 0 rfl) ?_
      refine va_get (D := D) (ci := 9) (C := RX5) (T := TX5) (N := 4) hx hb hts hin_X5 hown hK hP 0 rfl rfl 2 (by decide) hf_28 (fun _ h9 => h9) rfl dX5_sumOfCommits_8 ?_
      refine va_get (D := D) (ci := 5) (C := RX1) (T := TX1) (N := 4) hx hb hts hin_X1 hown hK hP 23 rfl rfl 3 (by decide) hf_123 (fun _ h9 => h9) rfl dX5_sumOfCommits_11 ?_
      refine lv_icmp_ge (tgt := 60) hx hb dX5_sumOfCommits_14 (by decide) (fun c10001 => ?_) (fun c10001 => ?_)
      · have hp := hp.1 c10001
        exact B_60 x3 (σ) _ _ _  hP hD hS (lv_sub hl [1] rfl) hp
      · have hp := hp.2 c10001
        refine lv_iconst (v := 0) hx hb dX5_sumOfCommits_17 (by decide) ?_
        refine lv_istore (lv' := [(6, .int 0), (0, .ref (ad 0)), (3, .long x3), (5, .int x5)]) hx hb dX5_sumOfCommits_18 hl (by decide) rfl (fun ls hl => ?_)
        obtain ⟨n9, hp⟩ := hp
        exact B_20 n9 x3 x5 0 (σ) _ _ _  hP hD hS (lv_sub hl [1, 2, 3, 0] rfl) hp
  refine lv_lload_n hx hb dX5_sumOfCommits_0 rfl (lv_at hl 1 rfl) ?_
  refine lv_lstore_n (lv' := [(3, .long p1), (0, .ref (ad 0)), (1, .long p1)]) hx hb dX5_sumOfCommits_1 rfl hl (by decide) rfl (fun ls hl => ?_)
  refine lv_iconst (v := 0) hx hb dX5_sumOfCommits_2 (by decide) ?_
  refine lv_istore (lv' := [(5, .int 0), (3, .long p1), (0, .ref (ad 0)), (1, .long p1)]) hx hb dX5_sumOfCommits_3 hl (by decide) rfl (fun ls hl => ?_)
  obtain ⟨n9, hp⟩ := hp
  exact B_5 n9 p1 0 (σ) _ _ _  hP hD hS (lv_sub hl [2, 1, 0] rfl) hp
def q_X5_digest_167  (post : Int64 → Mem → Prop)  (s0 : Int32) (s1 : Int64) (σ : Mem) : Prop := post (s1 + (s0.toInt64)) (σ)
def q_X5_digest_140  (post : Int64 → Mem → Prop)  (x1 : Int64) (σ : Mem) : Prop := (q_X5_sumOfMachines (fun (r8001 : Int64) (σ8002 : Mem) => (q_X5_sumOfCommits (fun (r8003 : Int64) (σ8004 : Mem) => (q_X5_isSound (fun (r8005 : Int32) (σ8006 : Mem) => ((r8005 = 0 → (q_X5_digest_167 post) 0 (r8003 * 31) (σ8006)) ∧ (¬ (r8005 = 0) → (q_X5_digest_167 post) 1 (r8003 * 31) (σ8006)))) (σ8004))) r8001 (σ8002))) x1 (σ))
def q_X5_digest_109  (post : Int64 → Mem → Prop) (kE_140 : Int64 → Mem → Prop) (kc_109 : Int64 → Int32 → Mem → Prop) (x1 : Int64) (x3 : Int32) (σ : Mem) : Prop := ((((σ) 1 10) ≤ x3 → kE_140 x1 (σ)) ∧ (¬ (((σ) 1 10) ≤ x3) → (q_X5_ofLine (fun (r7002 : Int32) (σ7003 : Mem) => (∀ v7004 : Int64, v7004 = ((x1 * 31) + (r7002.toInt64)) → (∀ v7005 : Int32, v7005 = x3 + 1 → kc_109 v7004 v7005 (σ7003)))) (fun _ _ => False) x3 5 (σ))))
def q_X5_digest_94  (post : Int64 → Mem → Prop)  (x1 : Int64) (σ : Mem) : Prop := (q_X5_reason (fun (r6001 : Int32) (σ6002 : Mem) => (∀ v6003 : Int64, v6003 = ((x1 * 31) + (r6001.toInt64)) → (∃ n9 : Nat, lp_3 (q_X5_digest_109 post (q_X5_digest_140 post)) n9 v6003 0 (σ6002)))) (fun _ _ => False) (-1) (σ))
def q_X5_digest_75  (post : Int64 → Mem → Prop) (kE_94 : Int64 → Mem → Prop) (kc_33 : Int64 → Int32 → Mem → Prop) (x1 : Int64) (x3 : Int32) (σ : Mem) : Prop := (q_X5_reason (fun (r5001 : Int32) (σ5002 : Mem) => (∀ v5003 : Int64, v5003 = ((x1 * 31) + (r5001.toInt64)) → (∀ v5004 : Int32, v5004 = x3 + 1 → kc_33 v5003 v5004 (σ5002)))) (fun _ _ => False) x3 (σ))
def q_X5_digest_47  (post : Int64 → Mem → Prop) (kE_75 : Int64 → Int32 → Mem → Prop) (kc_47 : Int64 → Int32 → Int32 → Mem → Prop) (x1 : Int64) (x3 : Int32) (x4 : Int32) (σ : Mem) : Prop := ((6 < x4 → kE_75 x1 x3 (σ)) ∧ (¬ (6 < x4) → (q_X5_ofField (fun (r4002 : Int32) (σ4003 : Mem) => (∀ v4004 : Int64, v4004 = ((x1 * 31) + (r4002.toInt64)) → (∀ v4005 : Int32, v4005 = x4 + 1 → kc_47 v4004 x3 v4005 (σ4003)))) (fun _ _ => False) x3 x4 (σ))))
def q_X5_digest_33  (post : Int64 → Mem → Prop) (kE_94 : Int64 → Mem → Prop) (kc_33 : Int64 → Int32 → Mem → Prop) (x1 : Int64) (x3 : Int32) (σ : Mem) : Prop := ((((σ) 1 9) ≤ x3 → kE_94 x1 (σ)) ∧ (¬ (((σ) 1 9) ≤ x3) → (∃ n9 : Nat, lp_4 (q_X5_digest_47 post (q_X5_digest_75 post kE_94 kc_33)) n9 x1 x3 0 (σ))))
def q_X5_digest_31  (post : Int64 → Mem → Prop)  (x1 : Int64) (σ : Mem) : Prop := (∃ n9 : Nat, lp_3 (q_X5_digest_33 post (q_X5_digest_94 post)) n9 x1 0 (σ))
def q_X5_digest_6  (post : Int64 → Mem → Prop) (kE_31 : Int64 → Mem → Prop) (kc_6 : Int64 → Int32 → Mem → Prop) (x1 : Int64) (x3 : Int32) (σ : Mem) : Prop := ((8 < x3 → kE_31 x1 (σ)) ∧ (¬ (8 < x3) → (q_X5_house (fun (r1002 : Int32) (σ1003 : Mem) => (∀ v1004 : Int64, v1004 = ((x1 * 31) + (r1002.toInt64)) → (∀ v1005 : Int32, v1005 = x3 + 1 → kc_6 v1004 v1005 (σ1003)))) (fun _ _ => False) x3 (σ))))
def q_X5_digest  (post : Int64 → Mem → Prop) (σ : Mem) : Prop := (∃ n9 : Nat, lp_3 (q_X5_digest_6 post (q_X5_digest_31 post)) n9 7703 0 (σ))
abbrev rm_X5_digest : Room := { frames := 8, cells := 0, slots := 0, locals := 248 }
abbrev wq_X5_digest : List Cond := Cond.code yX5_digest cX5_digest 5 (some .long) :: wALL
set_option maxHeartbeats 4000000 in
set_option maxRecDepth 100000 in
theorem c_X5_digest (l : Launch) (D : va_G) (k ad : Nat → Nat) {sz : Nat} {σ : Mem} {post : Int64 → Mem → Prop} (hp : q_X5_digest post σ) : Met l yX5_digest wq_X5_digest rm_X5_digest (va_Pc [.ref (ad 0)] (Pw D k (W5 k ad (σ)) sz)) (va_Ql post (fun u => Bw D (W5 k ad (σ)) sz (W5 k ad u)) (va_A (W5 k ad (σ)) sz)) 0 0 (va_A (W5 k ad (σ)) sz) := by
  refine fw_l (wf := fun u : Mem => W5 k ad u) (by decide) rfl (Nat.le_of_ble_eq_true rfl) ?_
  intro p e s m args below meth c A Q ls hC hP hD hl hret
  obtain ⟨⟨hx, hb, hml, hown, hts⟩, hG, hA⟩ := id hC
  have hK := hG.1
  have hS : va_S A s.heap s.heap [] := va_S.rf
  have hin_X5 : ∀ w ∈ u_ws RX5 TX5 4, w ∈ wq_X5_digest := fun w h => List.mem_cons_of_mem _ (iU_X5 w h)
  have hf_10 := hts _ (List.mem_cons_of_mem _ A_183)
  have hin_X2 : ∀ w ∈ u_ws RX2 TX2 11, w ∈ wq_X5_digest := fun w h => List.mem_cons_of_mem _ (iU_X2 w h)
  have hf_47 := hts _ (List.mem_cons_of_mem _ A_202)
  have hf_72 := hts _ (List.mem_cons_of_mem _ A_219)
  have hl : lv_has ls 5 [(0, .ref (ad 0))] := hl
  have hown : s.vm.findClass RX5 = some m.cls := hown
  unfold q_X5_digest at hp
  have B_167 : ∀ (s0 : Int32) (s1 : Int64) (σ : Mem) (H : Heap) (locs : List Loc) (ls : Array Slot), va_P D vwCl (W5 k ad (σ)) H → va_D A (W5 k ad (σ)) → va_S A s.heap H locs → lv_has ls 5 [] → (q_X5_digest_167 post) s0 s1 σ → W p l e rm_X5_digest s m args below meth c H locs 0 0 Q (F0 m 167 ls [.int s0, .long s1]) := by
    intro s0 s1 σ H locs ls hP hD hS hl hp
    unfold q_X5_digest_167 at hp
    refine lv_i2l (v := s0.toInt64) hx hb dX5_digest_167 rfl ?_
    refine lv_ladd hx hb dX5_digest_168 ?_
    exact hret (s1 + (s0.toInt64)) (σ) _ _ _ _ _ _ dX5_digest_169 hP hD hS (Nat.le_of_ble_eq_true rfl) (Nat.le_of_ble_eq_true rfl) hp
  have B_140 : ∀ (x1 : Int64) (σ : Mem) (H : Heap) (locs : List Loc) (ls : Array Slot), va_P D vwCl (W5 k ad (σ)) H → va_D A (W5 k ad (σ)) → va_S A s.heap H locs → lv_has ls 5 [(0, .ref (ad 0)), (1, .long x1)] → (q_X5_digest_140 post) x1 σ → W p l e rm_X5_digest s m args below meth c H locs 0 0 Q (F0 m 140 ls []) := by
    intro x1 σ H locs ls hP hD hS hl hp
    unfold q_X5_digest_140 at hp
    refine lv_aload_n hx hb dX5_digest_140 rfl (lv_at hl 0 rfl) ?_
    refine lv_aload_n hx hb dX5_digest_141 rfl (lv_at hl 0 rfl) ?_
    refine lv_lload_n hx hb dX5_digest_142 rfl (lv_at hl 1 rfl) ?_
    refine fw_clV (As := [.long x1]) (rest := [.ref (ad 0)]) hC (c_X5_sumOfMachines l D k ad hp) (cwV 1 hts (gA_V A_551 A_552 A_553 A_25 A_533) rfl rfl rfl (by decide +kernel) ⟨Nat.le_of_ble_eq_true rfl, Nat.le_of_ble_eq_true rfl⟩) (va_recv hK hP (ci := 9) (q0 := 0) rfl rfl) rfl hl.1 rfl (Nat.le_of_ble_eq_true rfl) dX5_digest_143 ⟨Nat.le_of_ble_eq_true rfl, Nat.le_of_ble_eq_true rfl⟩ hP hD hS Jn.same (fun r80001 σ80002 H locs hP hD hS hp => ?_)
    have hP : va_P D vwCl (W5 k ad (σ80002)) H := hP
    have hD : va_D A (W5 k ad (σ80002)) := hD
    refine fw_clV (As := [.long r80001]) (rest := []) hC (c_X5_sumOfCommits l D k ad hp) (cwV 1 hts (gA_V A_554 A_555 A_556 A_25 A_534) rfl rfl rfl (by decide +kernel) ⟨Nat.le_of_ble_eq_true rfl, Nat.le_of_ble_eq_true rfl⟩) (va_recv hK hP (ci := 9) (q0 := 0) rfl rfl) rfl hl.1 rfl (Nat.le_of_ble_eq_true rfl) dX5_digest_146 ⟨Nat.le_of_ble_eq_true rfl, Nat.le_of_ble_eq_true rfl⟩ hP hD hS Jn.same (fun r80003 σ80004 H locs hP hD hS hp => ?_)
    have hP : va_P D vwCl (W5 k ad (σ80004)) H := hP
    have hD : va_D A (W5 k ad (σ80004)) := hD
    refine lv_lstore_n (lv' := [(1, .long r80003), (0, .ref (ad 0))]) hx hb dX5_digest_149 rfl hl (by decide) rfl (fun ls hl => ?_)
    refine lv_lload_n hx hb dX5_digest_150 rfl (lv_at hl 0 rfl) ?_
    refine lv_ldc2 (v := 31) hx hb hown (hts _ (List.mem_cons_of_mem _ A_526)) dX5_digest_151 ?_
    refine lv_lmul hx hb dX5_digest_154 ?_
    refine lv_aload_n hx hb dX5_digest_155 rfl (lv_at hl 1 rfl) ?_
    refine fw_ciV (As := []) (rest := [.long (r80003 * 31)]) hC (c_X5_isSound l D k ad hp) (cwV 0 hts (gA_V A_557 A_558 A_559 A_25 A_525) rfl rfl rfl (by decide +kernel) ⟨Nat.le_of_ble_eq_true rfl, Nat.le_of_ble_eq_true rfl⟩) (va_recv hK hP (ci := 9) (q0 := 0) rfl rfl) rfl hl.1 rfl (Nat.le_of_ble_eq_true rfl) dX5_digest_156 ⟨Nat.le_of_ble_eq_true rfl, Nat.le_of_ble_eq_true rfl⟩ hP hD hS Jn.same (fun r80005 σ80006 H locs hP hD hS hp => ?_)
    have hP : va_P D vwCl (W5 k ad (σ80006)) H := hP
    have hD : va_D A (W5 k ad (σ80006)) := hD
    refine lv_if_eq (tgt := 166) hx hb dX5_digest_159 (by decide) (fun c80007 => ?_) (fun c80007 => ?_)
    · have hp := hp.1 c80007
      refine lv_iconst (v := 0) hx hb dX5_digest_166 (by decide) ?_
      exact B_167 0 (r80003 * 31) (σ80006) _ _ _  hP hD hS (lv_sub hl [] rfl) hp
    · have hp := hp.2 c80007
      refine lv_iconst (v := 1) hx hb dX5_digest_162 (by decide) ?_
      refine lv_goto (tgt := 167) hx hb dX5_digest_163 (by decide) ?_
      exact B_167 1 (r80003 * 31) (σ80006) _ _ _  hP hD hS (lv_sub hl [] rfl) hp
  have B_109 : ∀ (n_109 : Nat) (x1 : Int64) (x3 : Int32) (σ : Mem) (H : Heap) (locs : List Loc) (ls : Array Slot), va_P D vwCl (W5 k ad (σ)) H → va_D A (W5 k ad (σ)) → va_S A s.heap H locs → lv_has ls 5 [(0, .ref (ad 0)), (1, .long x1), (3, .int x3)] → lp_3 (q_X5_digest_109 post (q_X5_digest_140 post)) n_109 x1 x3 σ → W p l e rm_X5_digest s m args below meth c H locs 0 0 Q (F0 m 109 ls []) := by
    intro n_109
    induction n_109 with
    | zero => intro x1 x3 σ H locs ls hP hD hS hl hp; exact hp.elim
    | succ n_109 ih_109 =>
      intro x1 x3 σ H locs ls hP hD hS hl hp
      have hp : q_X5_digest_109 post (q_X5_digest_140 post) (lp_3 (q_X5_digest_109 post (q_X5_digest_140 post)) n_109) x1 x3 σ := hp
      unfold q_X5_digest_109 at hp
      refine lv_iload_n hx hb dX5_digest_109 rfl (lv_at hl 2 rfl) ?_
      refine lv_aload_n hx hb dX5_digest_110 rfl (lv_at hl 0 rfl) ?_
      refine va_get (D := D) (ci := 9) (C := RX5) (T := TX5) (N := 4) hx hb hts hin_X5 hown hK hP 0 rfl rfl 0 (by decide) hf_10 (fun _ h9 => h9) rfl dX5_digest_111 ?_
      refine va_get (D := D) (ci := 6) (C := RX2) (T := TX2) (N := 11) hx hb hts hin_X2 hown hK hP 1 rfl rfl 10 (by decide) hf_72 (fun _ h9 => h9) rfl dX5_digest_114 ?_
      refine lv_icmp_ge (tgt := 140) hx hb dX5_digest_117 (by decide) (fun c70001 => ?_) (fun c70001 => ?_)
      · have hp := hp.1 c70001
        exact B_140 x1 (σ) _ _ _  hP hD hS (lv_sub hl [0, 1] rfl) hp
      · have hp := hp.2 c70001
        refine lv_lload_n hx hb dX5_digest_120 rfl (lv_at hl 1 rfl) ?_
        refine lv_ldc2 (v := 31) hx hb hown (hts _ (List.mem_cons_of_mem _ A_526)) dX5_digest_121 ?_
        refine lv_lmul hx hb dX5_digest_124 ?_
        refine lv_aload_n hx hb dX5_digest_125 rfl (lv_at hl 0 rfl) ?_
        refine lv_iload_n hx hb dX5_digest_126 rfl (lv_at hl 2 rfl) ?_
        refine lv_iconst (v := 5) hx hb dX5_digest_127 (by decide) ?_
        refine fw_ciV (As := [.int x3, .int 5]) (rest := [.long (x1 * 31)]) hC (c0_X5_ofLine l D k ad hp) (cwV 2 hts (gA_V A_548 A_549 A_550 A_25 A_287) rfl rfl rfl (by decide +kernel) ⟨Nat.le_of_ble_eq_true rfl, Nat.le_of_ble_eq_true rfl⟩) (va_recv hK hP (ci := 9) (q0 := 0) rfl rfl) rfl hl.1 rfl (Nat.le_of_ble_eq_true rfl) dX5_digest_128 ⟨Nat.le_of_ble_eq_true rfl, Nat.le_of_ble_eq_true rfl⟩ hP hD hS Jn.same (fun r70002 σ70003 H locs hP hD hS hp => ?_)
        have hP : va_P D vwCl (W5 k ad (σ70003)) H := hP
        have hD : va_D A (W5 k ad (σ70003)) := hD
        refine lv_i2l (v := r70002.toInt64) hx hb dX5_digest_131 rfl ?_
        refine lv_ladd hx hb dX5_digest_132 ?_
        refine lv_topl (fun v70004 ev70004 => ?_)
        have hp := hp v70004 ev70004
        refine lv_lstore_n (lv' := [(1, .long v70004), (0, .ref (ad 0)), (3, .int x3)]) hx hb dX5_digest_133 rfl hl (by decide) rfl (fun ls hl => ?_)
        obtain ⟨v70005, ev70005⟩ : ∃ z : Int32, z = x3 + 1 := ⟨_, rfl⟩
        have hp := hp v70005 ev70005
        refine lv_iinc (v := v70005) (lv' := [(3, .int v70005), (1, .long v70004), (0, .ref (ad 0))]) hx hb dX5_digest_134 hl (k := 2) rfl (by rw [ev70005]; rfl) (by decide) rfl (fun ls hl => ?_)
        refine lv_goto (tgt := 109) hx hb dX5_digest_137 (by decide) ?_
        exact ih_109 v70004 v70005 (σ70003) _ _ _  hP hD hS (lv_sub hl [2, 1, 0] rfl) hp
  have B_94 : ∀ (x1 : Int64) (σ : Mem) (H : Heap) (locs : List Loc) (ls : Array Slot), va_P D vwCl (W5 k ad (σ)) H → va_D A (W5 k ad (σ)) → va_S A s.heap H locs → lv_has ls 5 [(0, .ref (ad 0)), (1, .long x1)] → (q_X5_digest_94 post) x1 σ → W p l e rm_X5_digest s m args below meth c H locs 0 0 Q (F0 m 94 ls []) := by
    intro x1 σ H locs ls hP hD hS hl hp
    unfold q_X5_digest_94 at hp
    refine lv_lload_n hx hb dX5_digest_94 rfl (lv_at hl 1 rfl) ?_
    refine lv_ldc2 (v := 31) hx hb hown (hts _ (List.mem_cons_of_mem _ A_526)) dX5_digest_95 ?_
    refine lv_lmul hx hb dX5_digest_98 ?_
    refine lv_aload_n hx hb dX5_digest_99 rfl (lv_at hl 0 rfl) ?_
    refine lv_iconst (v := (-1)) hx hb dX5_digest_100 (by decide) ?_
    refine fw_ciV (As := [.int (-1)]) (rest := [.long (x1 * 31)]) hC (c0_X5_reason l D k ad hp) (cwV 1 hts (gA_V A_545 A_546 A_547 A_25 A_516) rfl rfl rfl (by decide +kernel) ⟨Nat.le_of_ble_eq_true rfl, Nat.le_of_ble_eq_true rfl⟩) (va_recv hK hP (ci := 9) (q0 := 0) rfl rfl) rfl hl.1 rfl (Nat.le_of_ble_eq_true rfl) dX5_digest_101 ⟨Nat.le_of_ble_eq_true rfl, Nat.le_of_ble_eq_true rfl⟩ hP hD hS Jn.same (fun r60001 σ60002 H locs hP hD hS hp => ?_)
    have hP : va_P D vwCl (W5 k ad (σ60002)) H := hP
    have hD : va_D A (W5 k ad (σ60002)) := hD
    refine lv_i2l (v := r60001.toInt64) hx hb dX5_digest_104 rfl ?_
    refine lv_ladd hx hb dX5_digest_105 ?_
    refine lv_topl (fun v60003 ev60003 => ?_)
    have hp := hp v60003 ev60003
    refine lv_lstore_n (lv' := [(1, .long v60003), (0, .ref (ad 0))]) hx hb dX5_digest_106 rfl hl (by decide) rfl (fun ls hl => ?_)
    refine lv_iconst (v := 0) hx hb dX5_digest_107 (by decide) ?_
    refine lv_istore_n (lv' := [(3, .int 0), (1, .long v60003), (0, .ref (ad 0))]) hx hb dX5_digest_108 rfl hl (by decide) rfl (fun ls hl => ?_)
    obtain ⟨n9, hp⟩ := hp
    exact B_109 n9 v60003 0 (σ60002) _ _ _  hP hD hS (lv_sub hl [2, 1, 0] rfl) hp
  have B_33 : ∀ (n_33 : Nat) (x1 : Int64) (x3 : Int32) (σ : Mem) (H : Heap) (locs : List Loc) (ls : Array Slot), va_P D vwCl (W5 k ad (σ)) H → va_D A (W5 k ad (σ)) → va_S A s.heap H locs → lv_has ls 5 [(0, .ref (ad 0)), (1, .long x1), (3, .int x3)] → lp_3 (q_X5_digest_33 post (q_X5_digest_94 post)) n_33 x1 x3 σ → W p l e rm_X5_digest s m args below meth c H locs 0 0 Q (F0 m 33 ls []) := by
    intro n_33
    induction n_33 with
    | zero => intro x1 x3 σ H locs ls hP hD hS hl hp; exact hp.elim
    | succ n_33 ih_33 =>
      have B_75 : ∀ (x1 : Int64) (x3 : Int32) (σ : Mem) (H : Heap) (locs : List Loc) (ls : Array Slot), va_P D vwCl (W5 k ad (σ)) H → va_D A (W5 k ad (σ)) → va_S A s.heap H locs → lv_has ls 5 [(0, .ref (ad 0)), (1, .long x1), (3, .int x3)] → (q_X5_digest_75 post (q_X5_digest_94 post) (lp_3 (q_X5_digest_33 post (q_X5_digest_94 post)) n_33)) x1 x3 σ → W p l e rm_X5_digest s m args below meth c H locs 0 0 Q (F0 m 75 ls []) := by
        intro x1 x3 σ H locs ls hP hD hS hl hp
        unfold q_X5_digest_75 at hp
        refine lv_lload_n hx hb dX5_digest_75 rfl (lv_at hl 1 rfl) ?_
        refine lv_ldc2 (v := 31) hx hb hown (hts _ (List.mem_cons_of_mem _ A_526)) dX5_digest_76 ?_
        refine lv_lmul hx hb dX5_digest_79 ?_
        refine lv_aload_n hx hb dX5_digest_80 rfl (lv_at hl 0 rfl) ?_
        refine lv_iload_n hx hb dX5_digest_81 rfl (lv_at hl 2 rfl) ?_
        refine fw_ciV (As := [.int x3]) (rest := [.long (x1 * 31)]) hC (c0_X5_reason l D k ad hp) (cwV 1 hts (gA_V A_545 A_546 A_547 A_25 A_516) rfl rfl rfl (by decide +kernel) ⟨Nat.le_of_ble_eq_true rfl, Nat.le_of_ble_eq_true rfl⟩) (va_recv hK hP (ci := 9) (q0 := 0) rfl rfl) rfl hl.1 rfl (Nat.le_of_ble_eq_true rfl) dX5_digest_82 ⟨Nat.le_of_ble_eq_true rfl, Nat.le_of_ble_eq_true rfl⟩ hP hD hS Jn.same (fun r50001 σ50002 H locs hP hD hS hp => ?_)
        have hP : va_P D vwCl (W5 k ad (σ50002)) H := hP
        have hD : va_D A (W5 k ad (σ50002)) := hD
        refine lv_i2l (v := r50001.toInt64) hx hb dX5_digest_85 rfl ?_
        refine lv_ladd hx hb dX5_digest_86 ?_
        refine lv_topl (fun v50003 ev50003 => ?_)
        have hp := hp v50003 ev50003
        refine lv_lstore_n (lv' := [(1, .long v50003), (0, .ref (ad 0)), (3, .int x3)]) hx hb dX5_digest_87 rfl hl (by decide) rfl (fun ls hl => ?_)
        obtain ⟨v50004, ev50004⟩ : ∃ z : Int32, z = x3 + 1 := ⟨_, rfl⟩
        have hp := hp v50004 ev50004
        refine lv_iinc (v := v50004) (lv' := [(3, .int v50004), (1, .long v50003), (0, .ref (ad 0))]) hx hb dX5_digest_88 hl (k := 2) rfl (by rw [ev50004]; rfl) (by decide) rfl (fun ls hl => ?_)
        refine lv_goto (tgt := 33) hx hb dX5_digest_91 (by decide) ?_
        exact ih_33 v50003 v50004 (σ50002) _ _ _  hP hD hS (lv_sub hl [2, 1, 0] rfl) hp
      have B_47 : ∀ (n_47 : Nat) (x1 : Int64) (x3 : Int32) (x4 : Int32) (σ : Mem) (H : Heap) (locs : List Loc) (ls : Array Slot), va_P D vwCl (W5 k ad (σ)) H → va_D A (W5 k ad (σ)) → va_S A s.heap H locs → lv_has ls 5 [(0, .ref (ad 0)), (1, .long x1), (3, .int x3), (4, .int x4)] → lp_4 (q_X5_digest_47 post (q_X5_digest_75 post (q_X5_digest_94 post) (lp_3 (q_X5_digest_33 post (q_X5_digest_94 post)) n_33))) n_47 x1 x3 x4 σ → W p l e rm_X5_digest s m args below meth c H locs 0 0 Q (F0 m 47 ls []) := by
        intro n_47
        induction n_47 with
        | zero => intro x1 x3 x4 σ H locs ls hP hD hS hl hp; exact hp.elim
        | succ n_47 ih_47 =>
          intro x1 x3 x4 σ H locs ls hP hD hS hl hp
          have hp : q_X5_digest_47 post (q_X5_digest_75 post (q_X5_digest_94 post) (lp_3 (q_X5_digest_33 post (q_X5_digest_94 post)) n_33)) (lp_4 (q_X5_digest_47 post (q_X5_digest_75 post (q_X5_digest_94 post) (lp_3 (q_X5_digest_33 post (q_X5_digest_94 post)) n_33))) n_47) x1 x3 x4 σ := hp
          unfold q_X5_digest_47 at hp
          refine lv_iload hx hb dX5_digest_47 (lv_at hl 3 rfl) ?_
          refine lv_bipush (v := 6) hx hb dX5_digest_49 (by decide) ?_
          refine lv_icmp_gt (tgt := 75) hx hb dX5_digest_51 (by decide) (fun c40001 => ?_) (fun c40001 => ?_)
          · have hp := hp.1 c40001
            exact B_75 x1 x3 (σ) _ _ _  hP hD hS (lv_sub hl [0, 1, 2] rfl) hp
          · have hp := hp.2 c40001
            refine lv_lload_n hx hb dX5_digest_54 rfl (lv_at hl 1 rfl) ?_
            refine lv_ldc2 (v := 31) hx hb hown (hts _ (List.mem_cons_of_mem _ A_526)) dX5_digest_55 ?_
            refine lv_lmul hx hb dX5_digest_58 ?_
            refine lv_aload_n hx hb dX5_digest_59 rfl (lv_at hl 0 rfl) ?_
            refine lv_iload_n hx hb dX5_digest_60 rfl (lv_at hl 2 rfl) ?_
            refine lv_iload hx hb dX5_digest_61 (lv_at hl 3 rfl) ?_
            refine fw_ciV (As := [.int x3, .int x4]) (rest := [.long (x1 * 31)]) hC (c0_X5_ofField l D k ad hp) (cwV 2 hts (gA_V A_542 A_543 A_544 A_25 A_278) rfl rfl rfl (by decide +kernel) ⟨Nat.le_of_ble_eq_true rfl, Nat.le_of_ble_eq_true rfl⟩) (va_recv hK hP (ci := 9) (q0 := 0) rfl rfl) rfl hl.1 rfl (Nat.le_of_ble_eq_true rfl) dX5_digest_63 ⟨Nat.le_of_ble_eq_true rfl, Nat.le_of_ble_eq_true rfl⟩ hP hD hS Jn.same (fun r40002 σ40003 H locs hP hD hS hp => ?_)
            have hP : va_P D vwCl (W5 k ad (σ40003)) H := hP
            have hD : va_D A (W5 k ad (σ40003)) := hD
            refine lv_i2l (v := r40002.toInt64) hx hb dX5_digest_66 rfl ?_
            refine lv_ladd hx hb dX5_digest_67 ?_
            refine lv_topl (fun v40004 ev40004 => ?_)
            have hp := hp v40004 ev40004
            refine lv_lstore_n (lv' := [(1, .long v40004), (0, .ref (ad 0)), (3, .int x3), (4, .int x4)]) hx hb dX5_digest_68 rfl hl (by decide) rfl (fun ls hl => ?_)
            obtain ⟨v40005, ev40005⟩ : ∃ z : Int32, z = x4 + 1 := ⟨_, rfl⟩
            have hp := hp v40005 ev40005
            refine lv_iinc (v := v40005) (lv' := [(4, .int v40005), (1, .long v40004), (0, .ref (ad 0)), (3, .int x3)]) hx hb dX5_digest_69 hl (k := 3) rfl (by rw [ev40005]; rfl) (by decide) rfl (fun ls hl => ?_)
            refine lv_goto (tgt := 47) hx hb dX5_digest_72 (by decide) ?_
            exact ih_47 v40004 x3 v40005 (σ40003) _ _ _  hP hD hS (lv_sub hl [2, 1, 3, 0] rfl) hp
      intro x1 x3 σ H locs ls hP hD hS hl hp
      have hp : q_X5_digest_33 post (q_X5_digest_94 post) (lp_3 (q_X5_digest_33 post (q_X5_digest_94 post)) n_33) x1 x3 σ := hp
      unfold q_X5_digest_33 at hp
      refine lv_iload_n hx hb dX5_digest_33 rfl (lv_at hl 2 rfl) ?_
      refine lv_aload_n hx hb dX5_digest_34 rfl (lv_at hl 0 rfl) ?_
      refine va_get (D := D) (ci := 9) (C := RX5) (T := TX5) (N := 4) hx hb hts hin_X5 hown hK hP 0 rfl rfl 0 (by decide) hf_10 (fun _ h9 => h9) rfl dX5_digest_35 ?_
      refine va_get (D := D) (ci := 6) (C := RX2) (T := TX2) (N := 11) hx hb hts hin_X2 hown hK hP 1 rfl rfl 9 (by decide) hf_47 (fun _ h9 => h9) rfl dX5_digest_38 ?_
      refine lv_icmp_ge (tgt := 94) hx hb dX5_digest_41 (by decide) (fun c30001 => ?_) (fun c30001 => ?_)
      · have hp := hp.1 c30001
        exact B_94 x1 (σ) _ _ _  hP hD hS (lv_sub hl [0, 1] rfl) hp
      · have hp := hp.2 c30001
        refine lv_iconst (v := 0) hx hb dX5_digest_44 (by decide) ?_
        refine lv_istore (lv' := [(4, .int 0), (0, .ref (ad 0)), (1, .long x1), (3, .int x3)]) hx hb dX5_digest_45 hl (by decide) rfl (fun ls hl => ?_)
        obtain ⟨n9, hp⟩ := hp
        exact B_47 n9 x1 x3 0 (σ) _ _ _  hP hD hS (lv_sub hl [1, 2, 3, 0] rfl) hp
  have B_31 : ∀ (x1 : Int64) (σ : Mem) (H : Heap) (locs : List Loc) (ls : Array Slot), va_P D vwCl (W5 k ad (σ)) H → va_D A (W5 k ad (σ)) → va_S A s.heap H locs → lv_has ls 5 [(0, .ref (ad 0)), (1, .long x1)] → (q_X5_digest_31 post) x1 σ → W p l e rm_X5_digest s m args below meth c H locs 0 0 Q (F0 m 31 ls []) := by
    intro x1 σ H locs ls hP hD hS hl hp
    unfold q_X5_digest_31 at hp
    refine lv_iconst (v := 0) hx hb dX5_digest_31 (by decide) ?_
    refine lv_istore_n (lv' := [(3, .int 0), (0, .ref (ad 0)), (1, .long x1)]) hx hb dX5_digest_32 rfl hl (by decide) rfl (fun ls hl => ?_)
    obtain ⟨n9, hp⟩ := hp
    exact B_33 n9 x1 0 (σ) _ _ _  hP hD hS (lv_sub hl [1, 2, 0] rfl) hp
  have B_6 : ∀ (n_6 : Nat) (x1 : Int64) (x3 : Int32) (σ : Mem) (H : Heap) (locs : List Loc) (ls : Array Slot), va_P D vwCl (W5 k ad (σ)) H → va_D A (W5 k ad (σ)) → va_S A s.heap H locs → lv_has ls 5 [(0, .ref (ad 0)), (1, .long x1), (3, .int x3)] → lp_3 (q_X5_digest_6 post (q_X5_digest_31 post)) n_6 x1 x3 σ → W p l e rm_X5_digest s m args below meth c H locs 0 0 Q (F0 m 6 ls []) := by
    intro n_6
    induction n_6 with
    | zero => intro x1 x3 σ H locs ls hP hD hS hl hp; exact hp.elim
    | succ n_6 ih_6 =>
      intro x1 x3 σ H locs ls hP hD hS hl hp
      have hp : q_X5_digest_6 post (q_X5_digest_31 post) (lp_3 (q_X5_digest_6 post (q_X5_digest_31 post)) n_6) x1 x3 σ := hp
      unfold q_X5_digest_6 at hp
      refine lv_iload_n hx hb dX5_digest_6 rfl (lv_at hl 2 rfl) ?_
      refine lv_bipush (v := 8) hx hb dX5_digest_7 (by decide) ?_
      refine lv_icmp_gt (tgt := 31) hx hb dX5_digest_9 (by decide) (fun c10001 => ?_) (fun c10001 => ?_)
      · have hp := hp.1 c10001
        exact B_31 x1 (σ) _ _ _  hP hD hS (lv_sub hl [0, 1] rfl) hp
      · have hp := hp.2 c10001
        refine lv_lload_n hx hb dX5_digest_12 rfl (lv_at hl 1 rfl) ?_
        refine lv_ldc2 (v := 31) hx hb hown (hts _ (List.mem_cons_of_mem _ A_526)) dX5_digest_13 ?_
        refine lv_lmul hx hb dX5_digest_16 ?_
        refine lv_aload_n hx hb dX5_digest_17 rfl (lv_at hl 0 rfl) ?_
        refine lv_iload_n hx hb dX5_digest_18 rfl (lv_at hl 2 rfl) ?_
        refine fw_ciV (As := [.int x3]) (rest := [.long (x1 * 31)]) hC (c0_X5_house l D k ad hp) (cwV 1 hts (gA_V A_539 A_540 A_541 A_25 A_304) rfl rfl rfl (by decide +kernel) ⟨Nat.le_of_ble_eq_true rfl, Nat.le_of_ble_eq_true rfl⟩) (va_recv hK hP (ci := 9) (q0 := 0) rfl rfl) rfl hl.1 rfl (Nat.le_of_ble_eq_true rfl) dX5_digest_19 ⟨Nat.le_of_ble_eq_true rfl, Nat.le_of_ble_eq_true rfl⟩ hP hD hS Jn.same (fun r10002 σ10003 H locs hP hD hS hp => ?_)
        have hP : va_P D vwCl (W5 k ad (σ10003)) H := hP
        have hD : va_D A (W5 k ad (σ10003)) := hD
        refine lv_i2l (v := r10002.toInt64) hx hb dX5_digest_22 rfl ?_
        refine lv_ladd hx hb dX5_digest_23 ?_
        refine lv_topl (fun v10004 ev10004 => ?_)
        have hp := hp v10004 ev10004
        refine lv_lstore_n (lv' := [(1, .long v10004), (0, .ref (ad 0)), (3, .int x3)]) hx hb dX5_digest_24 rfl hl (by decide) rfl (fun ls hl => ?_)
        obtain ⟨v10005, ev10005⟩ : ∃ z : Int32, z = x3 + 1 := ⟨_, rfl⟩
        have hp := hp v10005 ev10005
        refine lv_iinc (v := v10005) (lv' := [(3, .int v10005), (1, .long v10004), (0, .ref (ad 0))]) hx hb dX5_digest_25 hl (k := 2) rfl (by rw [ev10005]; rfl) (by decide) rfl (fun ls hl => ?_)
        refine lv_goto (tgt := 6) hx hb dX5_digest_28 (by decide) ?_
        exact ih_6 v10004 v10005 (σ10003) _ _ _  hP hD hS (lv_sub hl [2, 1, 0] rfl) hp
  refine lv_ldc2 (v := 7703) hx hb hown (hts _ (List.mem_cons_of_mem _ A_538)) dX5_digest_0 ?_
  refine lv_lstore_n (lv' := [(1, .long 7703), (0, .ref (ad 0))]) hx hb dX5_digest_3 rfl hl (by decide) rfl (fun ls hl => ?_)
  refine lv_iconst (v := 0) hx hb dX5_digest_4 (by decide) ?_
  refine lv_istore_n (lv' := [(3, .int 0), (1, .long 7703), (0, .ref (ad 0))]) hx hb dX5_digest_5 rfl hl (by decide) rfl (fun ls hl => ?_)
  obtain ⟨n9, hp⟩ := hp
  exact B_6 n9 7703 0 (σ) _ _ _  hP hD hS (lv_sub hl [2, 1, 0] rfl) hp
