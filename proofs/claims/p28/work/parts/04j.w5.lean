def q_X5_ofField  (post : Int32 → Mem → Prop) (px : String → Mem → Prop) (p1 : Int32) (p2 : Int32) (σ : Mem) : Prop := (q_X5_isField (fun (r1 : Int32) (σ2 : Mem) => ((r1 ≠ 0 → ((sw_out p2 7 → (px "java/lang/IllegalArgumentException" (σ2))) ∧ (p2 = nI 0 → (vp_in p1 5 ∧ post ((σ2) 2 p1.toNatClampNeg) (σ2))) ∧ (p2 = nI 1 → (vp_in p1 5 ∧ post ((σ2) 13 p1.toNatClampNeg) (σ2))) ∧ (p2 = nI 2 → (vp_in p1 5 ∧ (q_J6_bitCount_0f7a4 (fun (r9 : Int32) (σ10 : Mem) => post r9 (σ2)) ((σ2) 13 p1.toNatClampNeg) (σ2)))) ∧ (p2 = nI 3 → (vp_in p1 5 ∧ post ((σ2) 22 p1.toNatClampNeg) (σ2))) ∧ (p2 = nI 4 → (vp_in p1 5 ∧ post ((σ2) 3 p1.toNatClampNeg) (σ2))) ∧ (p2 = nI 5 → (vp_in p1 5 ∧ post ((σ2) 21 p1.toNatClampNeg) (σ2))) ∧ (p2 = nI 6 → (q_X1_find (fun (r14 : Int32) (σ15 : Mem) => post r14 (σ15)) p1 (σ2))))) ∧ (r1 = 0 → (px "java/lang/IndexOutOfBoundsException" (σ2))))) p1 (σ))
abbrev rm_X5_ofField : Room := { frames := 6, cells := 1, slots := 6, locals := 200 }
abbrev wq_X5_ofField : List Cond := Cond.code yX5_ofField cX5_ofField 3 (some .int) :: wALL
set_option maxHeartbeats 4000000 in
set_option maxRecDepth 100000 in
theorem c_X5_ofField (l : Launch) (hflag : l.stackTraces = false) (D : va_G) (k ad : Nat → Nat) {sz : Nat} {σ : Mem} {p1 : Int32} {p2 : Int32} {post : Int32 → Mem → Prop} {px : String → Mem → Prop} (hp : q_X5_ofField post px p1 p2 σ) : vx_Met l yX5_ofField wq_X5_ofField rm_X5_ofField (va_Pc [.ref (ad 0), .int p1, .int p2] (Pw D k (W5 k ad (σ)) sz)) (va_Qi post (fun u => Bw D (W5 k ad (σ)) sz (W5 k ad u)) (va_A (W5 k ad (σ)) sz)) (vx_X (fun z : String × Mem => px z.1 z.2) (fun E z t => E = z.1 ∧ Bw D (W5 k ad (σ)) sz (W5 k ad z.2) t) (va_A (W5 k ad (σ)) sz)) 1 6 (va_A (W5 k ad (σ)) sz) := by
  refine fw_xi hflag (wf := fun u : Mem => W5 k ad u) (by decide) rfl (Nat.le_of_ble_eq_true rfl) ?_
  intro p e s m args below meth c A Q ls hC hP hD hl hret hthr
  obtain ⟨⟨hx, hb, hml, hown, hts⟩, hG, hA⟩ := id hC
  have hK := hG.1
  have hS : va_S A s.heap s.heap [] := va_S.rf
  have hin_X5 : ∀ w ∈ u_ws RX5 TX5 4, w ∈ wq_X5_ofField := fun w h => List.mem_cons_of_mem _ (iU_X5 w h)
  have hf_10 := hts _ (List.mem_cons_of_mem _ A_183)
  have hin_X2 : ∀ w ∈ u_ws RX2 TX2 11, w ∈ wq_X5_ofField := fun w h => List.mem_cons_of_mem _ (iU_X2 w h)
  have hf_165 := hts _ (List.mem_cons_of_mem _ A_267)
  have hf_21 := hts _ (List.mem_cons_of_mem _ A_186)
  have hin_X4 : ∀ w ∈ u_ws RX4 TX4 7, w ∈ wq_X5_ofField := fun w h => List.mem_cons_of_mem _ (iU_X4 w h)
  have hf_113 := hts _ (List.mem_cons_of_mem _ A_246)
  have hin_X3 : ∀ w ∈ u_ws RX3 TX3 3, w ∈ wq_X5_ofField := fun w h => List.mem_cons_of_mem _ (iU_X3 w h)
  have hf_168 := hts _ (List.mem_cons_of_mem _ A_271)
  have hf_128 := hts _ (List.mem_cons_of_mem _ A_249)
  have hf_109 := hts _ (List.mem_cons_of_mem _ A_243)
  have hf_176 := hts _ (List.mem_cons_of_mem _ A_272)
  have hin_X0 : ∀ w ∈ u_ws RX0 TX0 7, w ∈ wq_X5_ofField := fun w h => List.mem_cons_of_mem _ (iU_X0 w h)
  have hf_180 := hts _ (List.mem_cons_of_mem _ A_273)
  have hf_28 := hts _ (List.mem_cons_of_mem _ A_189)
  have hl : lv_has ls 3 [(0, .ref (ad 0)), (1, .int p1), (2, .int p2)] := hl
  have hown : s.vm.findClass RX5 = some m.cls := hown
  unfold q_X5_ofField at hp
  refine lv_aload_n hx hb dX5_ofField_0 rfl (lv_at hl 0 rfl) ?_
  refine lv_iload_n hx hb dX5_ofField_1 rfl (lv_at hl 1 rfl) ?_
  refine fw_ciV (As := [.int p1]) (rest := []) hC (c_X5_isField l D k ad hp) (cwV 1 hts (gA_V A_220 A_221 A_222 A_25 A_212) rfl rfl rfl (by decide +kernel) ⟨Nat.le_of_ble_eq_true rfl, Nat.le_of_ble_eq_true rfl⟩) (va_recv hK hP (ci := 9) (q0 := 0) rfl rfl) rfl hl.1 rfl (Nat.le_of_ble_eq_true rfl) dX5_ofField_2 ⟨Nat.le_of_ble_eq_true rfl, Nat.le_of_ble_eq_true rfl⟩ hP hD hS Jn.same (fun r1 σ2 H locs hP hD hS hp => ?_)
  have hP : va_P D vwCl (W5 k ad (σ2)) H := hP
  have hD : va_D A (W5 k ad (σ2)) := hD
  refine lv_if_ne (tgt := 18) hx hb dX5_ofField_5 (by decide) (fun c3 => ?_) (fun c3 => ?_)
  · have hp := hp.1 c3
    refine lv_iload_n hx hb dX5_ofField_18 rfl (lv_at hl 2 rfl) ?_
    rcases sw_in p2 7 (by decide) with c4 | ⟨j5, hj5, ej5⟩
    · have hp := hp.1 c4
      refine lv_tableOut (tgt := 141) hx hb dX5_ofField_19 (sw_of c4) (by decide) ?_
      exact hthr "java/lang/IllegalArgumentException" "what is not 0 to 6" ["java/lang/RuntimeException", "java/lang/Exception"] 40 188 44 (k (1000 + 188)) (σ2) _ _ _ _ _ _ _ (by decide +kernel) (by decide +kernel) (hts _ (List.mem_cons_of_mem _ A_198)) (hts _ (List.mem_cons_of_mem _ A_199)) (GG.sx hG 7 rfl) (hat_44 (fun w h => hts w (List.mem_cons_of_mem _ h)) (GG.nc hG (q := ("java/lang/IllegalArgumentException", "java/lang/IllegalArgumentException")) 4 rfl) (GG.nd hG)) vO_44 hl.1 dX5_ofField_141 dX5_ofField_144 dX5_ofField_145 dX5_ofField_147 dX5_ofField_150 (Nat.le_of_ble_eq_true rfl) (Nat.le_of_ble_eq_true rfl) (Nat.le_of_ble_eq_true rfl) (Nat.le_of_ble_eq_true rfl) hP hD hS (Nat.le_of_ble_eq_true rfl) (Nat.le_of_ble_eq_true rfl) hp
    · have hp := hp.2
      rcases (show j5 = 0 ∨ j5 = 1 ∨ j5 = 2 ∨ j5 = 3 ∨ j5 = 4 ∨ j5 = 5 ∨ j5 = 6 by omega) with rfl | rfl | rfl | rfl | rfl | rfl | rfl
      · have hp := hp.1 ej5
        refine lv_tableIn (tgt := 60) (off := 41) hx hb dX5_ofField_19 (by rw [ej5]; decide) (by rw [ej5]; decide) (by rw [ej5]; rfl) (by decide) ?_
        refine lv_aload_n hx hb dX5_ofField_60 rfl (lv_at hl 0 rfl) ?_
        refine va_get (D := D) (ci := 9) (C := RX5) (T := TX5) (N := 4) hx hb hts hin_X5 hown hK hP 0 rfl rfl 0 (by decide) hf_10 (fun _ h9 => h9) rfl dX5_ofField_61 ?_
        refine va_get (D := D) (ci := 6) (C := RX2) (T := TX2) (N := 11) hx hb hts hin_X2 hown hK hP 1 rfl rfl 0 (by decide) hf_165 (fun _ h9 => h9) rfl dX5_ofField_64 ?_
        refine lv_iload_n hx hb dX5_ofField_67 rfl (lv_at hl 1 rfl) ?_
        obtain ⟨h6, hp⟩ := hp
        refine va_iald hx hb hK hP 2 0 rfl rfl h6 dX5_ofField_68 ?_
        exact hret ((σ2) 2 p1.toNatClampNeg) (σ2) _ _ _ _ _ _ dX5_ofField_69 rfl hP hD hS (Nat.le_of_ble_eq_true rfl) (Nat.le_of_ble_eq_true rfl) hp
      · have hp := hp.2.1 ej5
        refine lv_tableIn (tgt := 70) (off := 51) hx hb dX5_ofField_19 (by rw [ej5]; decide) (by rw [ej5]; decide) (by rw [ej5]; rfl) (by decide) ?_
        refine lv_aload_n hx hb dX5_ofField_70 rfl (lv_at hl 0 rfl) ?_
        refine va_get (D := D) (ci := 9) (C := RX5) (T := TX5) (N := 4) hx hb hts hin_X5 hown hK hP 0 rfl rfl 1 (by decide) hf_21 (fun _ h9 => h9) rfl dX5_ofField_71 ?_
        refine va_get (D := D) (ci := 8) (C := RX4) (T := TX4) (N := 7) hx hb hts hin_X4 hown hK hP 11 rfl rfl 1 (by decide) hf_113 (fun _ h9 => h9) rfl dX5_ofField_74 ?_
        refine va_get (D := D) (ci := 7) (C := RX3) (T := TX3) (N := 3) hx hb hts hin_X3 hown hK hP 12 rfl rfl 1 (by decide) hf_168 (fun _ h9 => h9) rfl dX5_ofField_77 ?_
        refine lv_iload_n hx hb dX5_ofField_80 rfl (lv_at hl 1 rfl) ?_
        obtain ⟨h7, hp⟩ := hp
        refine va_iald hx hb hK hP 13 0 rfl rfl h7 dX5_ofField_81 ?_
        exact hret ((σ2) 13 p1.toNatClampNeg) (σ2) _ _ _ _ _ _ dX5_ofField_82 rfl hP hD hS (Nat.le_of_ble_eq_true rfl) (Nat.le_of_ble_eq_true rfl) hp
      · have hp := hp.2.2.1 ej5
        refine lv_tableIn (tgt := 83) (off := 64) hx hb dX5_ofField_19 (by rw [ej5]; decide) (by rw [ej5]; decide) (by rw [ej5]; rfl) (by decide) ?_
        refine lv_aload_n hx hb dX5_ofField_83 rfl (lv_at hl 0 rfl) ?_
        refine va_get (D := D) (ci := 9) (C := RX5) (T := TX5) (N := 4) hx hb hts hin_X5 hown hK hP 0 rfl rfl 1 (by decide) hf_21 (fun _ h9 => h9) rfl dX5_ofField_84 ?_
        refine va_get (D := D) (ci := 8) (C := RX4) (T := TX4) (N := 7) hx hb hts hin_X4 hown hK hP 11 rfl rfl 1 (by decide) hf_113 (fun _ h9 => h9) rfl dX5_ofField_87 ?_
        refine va_get (D := D) (ci := 7) (C := RX3) (T := TX3) (N := 3) hx hb hts hin_X3 hown hK hP 12 rfl rfl 1 (by decide) hf_168 (fun _ h9 => h9) rfl dX5_ofField_90 ?_
        refine lv_iload_n hx hb dX5_ofField_93 rfl (lv_at hl 1 rfl) ?_
        obtain ⟨h8, hp⟩ := hp
        refine va_iald hx hb hK hP 13 0 rfl rfl h8 dX5_ofField_94 ?_
        refine fw_ciS (As := [.int ((σ2) 13 p1.toNatClampNeg)]) (rest := []) hC (c_J6_bitCount_0f7a4 l D k hp) (va_cwS 1 hts (gA_S A_274 A_149 A_150 A_141) rfl rfl rfl (by decide +kernel) ⟨Nat.le_of_ble_eq_true rfl, Nat.le_of_ble_eq_true rfl⟩) rfl hl.1 rfl (Nat.le_of_ble_eq_true rfl) dX5_ofField_95 ⟨Nat.le_of_ble_eq_true rfl, Nat.le_of_ble_eq_true rfl⟩ P_nil D_nil hS (Jn.pure (w0 := fun _ : Mem => []) hP hD) (fun r9 σ10 H locs hP hD hS hp => ?_)
        have hP : va_P D vwCl (W5 k ad (σ2)) H := hP
        have hD : va_D A (W5 k ad (σ2)) := hD
        exact hret r9 (σ2) _ _ _ _ _ _ dX5_ofField_98 rfl hP hD hS (Nat.le_of_ble_eq_true rfl) (Nat.le_of_ble_eq_true rfl) hp
      · have hp := hp.2.2.2.1 ej5
        refine lv_tableIn (tgt := 99) (off := 80) hx hb dX5_ofField_19 (by rw [ej5]; decide) (by rw [ej5]; decide) (by rw [ej5]; rfl) (by decide) ?_
        refine lv_aload_n hx hb dX5_ofField_99 rfl (lv_at hl 0 rfl) ?_
        refine va_get (D := D) (ci := 9) (C := RX5) (T := TX5) (N := 4) hx hb hts hin_X5 hown hK hP 0 rfl rfl 1 (by decide) hf_21 (fun _ h9 => h9) rfl dX5_ofField_100 ?_
        refine va_get (D := D) (ci := 8) (C := RX4) (T := TX4) (N := 7) hx hb hts hin_X4 hown hK hP 11 rfl rfl 5 (by decide) hf_128 (fun _ h9 => h9) rfl dX5_ofField_103 ?_
        refine lv_iload_n hx hb dX5_ofField_106 rfl (lv_at hl 1 rfl) ?_
        obtain ⟨h11, hp⟩ := hp
        refine va_iald hx hb hK hP 22 0 rfl rfl h11 dX5_ofField_107 ?_
        exact hret ((σ2) 22 p1.toNatClampNeg) (σ2) _ _ _ _ _ _ dX5_ofField_108 rfl hP hD hS (Nat.le_of_ble_eq_true rfl) (Nat.le_of_ble_eq_true rfl) hp
      · have hp := hp.2.2.2.2.1 ej5
        refine lv_tableIn (tgt := 109) (off := 90) hx hb dX5_ofField_19 (by rw [ej5]; decide) (by rw [ej5]; decide) (by rw [ej5]; rfl) (by decide) ?_
        refine lv_aload_n hx hb dX5_ofField_109 rfl (lv_at hl 0 rfl) ?_
        refine va_get (D := D) (ci := 9) (C := RX5) (T := TX5) (N := 4) hx hb hts hin_X5 hown hK hP 0 rfl rfl 0 (by decide) hf_10 (fun _ h9 => h9) rfl dX5_ofField_110 ?_
        refine va_get (D := D) (ci := 6) (C := RX2) (T := TX2) (N := 11) hx hb hts hin_X2 hown hK hP 1 rfl rfl 1 (by decide) hf_109 (fun _ h9 => h9) rfl dX5_ofField_113 ?_
        refine lv_iload_n hx hb dX5_ofField_116 rfl (lv_at hl 1 rfl) ?_
        obtain ⟨h12, hp⟩ := hp
        refine va_iald hx hb hK hP 3 0 rfl rfl h12 dX5_ofField_117 ?_
        exact hret ((σ2) 3 p1.toNatClampNeg) (σ2) _ _ _ _ _ _ dX5_ofField_118 rfl hP hD hS (Nat.le_of_ble_eq_true rfl) (Nat.le_of_ble_eq_true rfl) hp
      · have hp := hp.2.2.2.2.2.1 ej5
        refine lv_tableIn (tgt := 119) (off := 100) hx hb dX5_ofField_19 (by rw [ej5]; decide) (by rw [ej5]; decide) (by rw [ej5]; rfl) (by decide) ?_
        refine lv_aload_n hx hb dX5_ofField_119 rfl (lv_at hl 0 rfl) ?_
        refine va_get (D := D) (ci := 9) (C := RX5) (T := TX5) (N := 4) hx hb hts hin_X5 hown hK hP 0 rfl rfl 1 (by decide) hf_21 (fun _ h9 => h9) rfl dX5_ofField_120 ?_
        refine va_get (D := D) (ci := 8) (C := RX4) (T := TX4) (N := 7) hx hb hts hin_X4 hown hK hP 11 rfl rfl 4 (by decide) hf_176 (fun _ h9 => h9) rfl dX5_ofField_123 ?_
        refine va_get (D := D) (ci := 4) (C := RX0) (T := TX0) (N := 7) hx hb hts hin_X0 hown hK hP 18 rfl rfl 3 (by decide) hf_180 (fun _ h9 => h9) rfl dX5_ofField_126 ?_
        refine lv_iload_n hx hb dX5_ofField_129 rfl (lv_at hl 1 rfl) ?_
        obtain ⟨h13, hp⟩ := hp
        refine va_iald hx hb hK hP 21 0 rfl rfl h13 dX5_ofField_130 ?_
        exact hret ((σ2) 21 p1.toNatClampNeg) (σ2) _ _ _ _ _ _ dX5_ofField_131 rfl hP hD hS (Nat.le_of_ble_eq_true rfl) (Nat.le_of_ble_eq_true rfl) hp
      · have hp := hp.2.2.2.2.2.2 ej5
        refine lv_tableIn (tgt := 132) (off := 113) hx hb dX5_ofField_19 (by rw [ej5]; decide) (by rw [ej5]; decide) (by rw [ej5]; rfl) (by decide) ?_
        refine lv_aload_n hx hb dX5_ofField_132 rfl (lv_at hl 0 rfl) ?_
        refine va_get (D := D) (ci := 9) (C := RX5) (T := TX5) (N := 4) hx hb hts hin_X5 hown hK hP 0 rfl rfl 2 (by decide) hf_28 (fun _ h9 => h9) rfl dX5_ofField_133 ?_
        refine lv_iload_n hx hb dX5_ofField_136 rfl (lv_at hl 1 rfl) ?_
        refine fw_ciV (As := [.int p1]) (rest := []) hC (c_X1_find l D k ad hp) (cwV 1 hts (gA_V A_275 A_276 A_277 A_68 A_74) rfl rfl rfl (by decide +kernel) ⟨Nat.le_of_ble_eq_true rfl, Nat.le_of_ble_eq_true rfl⟩) (va_recv hK hP (ci := 5) (q0 := 23) rfl rfl) rfl hl.1 rfl (Nat.le_of_ble_eq_true rfl) dX5_ofField_137 ⟨Nat.le_of_ble_eq_true rfl, Nat.le_of_ble_eq_true rfl⟩ hP hD hS Jn.same (fun r14 σ15 H locs hP hD hS hp => ?_)
        have hP : va_P D vwCl (W5 k ad (σ15)) H := hP
        have hD : va_D A (W5 k ad (σ15)) := hD
        exact hret r14 (σ15) _ _ _ _ _ _ dX5_ofField_140 rfl hP hD hS (Nat.le_of_ble_eq_true rfl) (Nat.le_of_ble_eq_true rfl) hp
  · have hp := hp.2 c3
    exact hthr "java/lang/IndexOutOfBoundsException" "no such field" ["java/lang/RuntimeException", "java/lang/Exception"] 65 67 69 (k (1000 + 67)) (σ2) _ _ _ _ _ _ _ (by decide +kernel) (by decide +kernel) (hts _ (List.mem_cons_of_mem _ A_217)) (hts _ (List.mem_cons_of_mem _ A_218)) (GG.sx hG 15 rfl) (hat_69 (fun w h => hts w (List.mem_cons_of_mem _ h)) (GG.nc hG (q := ("java/lang/IndexOutOfBoundsException", "java/lang/IndexOutOfBoundsException")) 6 rfl) (GG.nd hG)) vO_69 hl.1 dX5_ofField_8 dX5_ofField_11 dX5_ofField_12 dX5_ofField_14 dX5_ofField_17 (Nat.le_of_ble_eq_true rfl) (Nat.le_of_ble_eq_true rfl) (Nat.le_of_ble_eq_true rfl) (Nat.le_of_ble_eq_true rfl) hP hD hS (Nat.le_of_ble_eq_true rfl) (Nat.le_of_ble_eq_true rfl) hp
def q_X5_ofLine_147  (post : Int32 → Mem → Prop) (px : String → Mem → Prop)  (s0 : Int32) (σ : Mem) : Prop := post s0 (σ)
def q_X5_ofLine_126  (post : Int32 → Mem → Prop) (px : String → Mem → Prop)  (s0 : Int32) (σ : Mem) : Prop := post s0 (σ)
def q_X5_ofLine  (post : Int32 → Mem → Prop) (px : String → Mem → Prop) (p1 : Int32) (p2 : Int32) (σ : Mem) : Prop := (q_X5_isLine (fun (r1 : Int32) (σ2 : Mem) => ((r1 ≠ 0 → ((sw_out p2 7 → (px "java/lang/IllegalArgumentException" (σ2))) ∧ (p2 = nI 0 → (vp_in p1 30 ∧ post ((σ2) 4 p1.toNatClampNeg) (σ2))) ∧ (p2 = nI 1 → (vp_in p1 30 ∧ post ((σ2) 5 p1.toNatClampNeg) (σ2))) ∧ (p2 = nI 2 → (vp_in p1 30 ∧ post ((σ2) 6 p1.toNatClampNeg) (σ2))) ∧ (p2 = nI 3 → (vp_in p1 30 ∧ post ((σ2) 7 p1.toNatClampNeg) (σ2))) ∧ (p2 = nI 4 → (vp_in p1 30 ∧ post ((σ2) 8 p1.toNatClampNeg) (σ2))) ∧ (p2 = nI 5 → (q_X2_counts (fun (r11 : Int32) (σ12 : Mem) => ((r11 = 0 → (q_X5_ofLine_126 post px) 0 (σ12)) ∧ (¬ (r11 = 0) → (q_X5_ofLine_126 post px) 1 (σ12)))) p1 (σ2))) ∧ (p2 = nI 6 → (q_X4_reasonOf (fun (r14 : Int32) (σ15 : Mem) => (q_X5_contains (fun (r16 : Int32) (σ17 : Mem) => ((r16 = 0 → (q_X5_ofLine_147 post px) 0 (σ15)) ∧ (¬ (r16 = 0) → (q_X5_ofLine_147 post px) 1 (σ15)))) r14 p1 (σ15))) (-1) (σ2))))) ∧ (r1 = 0 → (px "java/lang/IndexOutOfBoundsException" (σ2))))) p1 (σ))
abbrev rm_X5_ofLine : Room := { frames := 6, cells := 1, slots := 6, locals := 200 }
abbrev wq_X5_ofLine : List Cond := Cond.code yX5_ofLine cX5_ofLine 3 (some .int) :: wALL
set_option maxHeartbeats 4000000 in
set_option maxRecDepth 100000 in
theorem c_X5_ofLine (l : Launch) (hflag : l.stackTraces = false) (D : va_G) (k ad : Nat → Nat) {sz : Nat} {σ : Mem} {p1 : Int32} {p2 : Int32} {post : Int32 → Mem → Prop} {px : String → Mem → Prop} (hp : q_X5_ofLine post px p1 p2 σ) : vx_Met l yX5_ofLine wq_X5_ofLine rm_X5_ofLine (va_Pc [.ref (ad 0), .int p1, .int p2] (Pw D k (W5 k ad (σ)) sz)) (va_Qi post (fun u => Bw D (W5 k ad (σ)) sz (W5 k ad u)) (va_A (W5 k ad (σ)) sz)) (vx_X (fun z : String × Mem => px z.1 z.2) (fun E z t => E = z.1 ∧ Bw D (W5 k ad (σ)) sz (W5 k ad z.2) t) (va_A (W5 k ad (σ)) sz)) 1 6 (va_A (W5 k ad (σ)) sz) := by
  refine fw_xi hflag (wf := fun u : Mem => W5 k ad u) (by decide) rfl (Nat.le_of_ble_eq_true rfl) ?_
  intro p e s m args below meth c A Q ls hC hP hD hl hret hthr
  obtain ⟨⟨hx, hb, hml, hown, hts⟩, hG, hA⟩ := id hC
  have hK := hG.1
  have hS : va_S A s.heap s.heap [] := va_S.rf
  have hin_X5 : ∀ w ∈ u_ws RX5 TX5 4, w ∈ wq_X5_ofLine := fun w h => List.mem_cons_of_mem _ (iU_X5 w h)
  have hf_10 := hts _ (List.mem_cons_of_mem _ A_183)
  have hin_X2 : ∀ w ∈ u_ws RX2 TX2 11, w ∈ wq_X5_ofLine := fun w h => List.mem_cons_of_mem _ (iU_X2 w h)
  have hf_190 := hts _ (List.mem_cons_of_mem _ A_279)
  have hf_193 := hts _ (List.mem_cons_of_mem _ A_280)
  have hf_196 := hts _ (List.mem_cons_of_mem _ A_281)
  have hf_199 := hts _ (List.mem_cons_of_mem _ A_282)
  have hf_202 := hts _ (List.mem_cons_of_mem _ A_283)
  have hf_21 := hts _ (List.mem_cons_of_mem _ A_186)
  have hl : lv_has ls 3 [(0, .ref (ad 0)), (1, .int p1), (2, .int p2)] := hl
  have hown : s.vm.findClass RX5 = some m.cls := hown
  unfold q_X5_ofLine at hp
  have B_147 : ∀ (s0 : Int32) (σ : Mem) (H : Heap) (locs : List Loc) (ls : Array Slot), va_P D vwCl (W5 k ad (σ)) H → va_D A (W5 k ad (σ)) → va_S A s.heap H locs → lv_has ls 3 [] → (q_X5_ofLine_147 post px) s0 σ → W p l e rm_X5_ofLine s m args below meth c H locs 0 0 Q (F0 m 147 ls [.int s0]) := by
    intro s0 σ H locs ls hP hD hS hl hp
    unfold q_X5_ofLine_147 at hp
    exact hret s0 (σ) _ _ _ _ _ _ dX5_ofLine_147 rfl hP hD hS (Nat.le_of_ble_eq_true rfl) (Nat.le_of_ble_eq_true rfl) hp
  have B_126 : ∀ (s0 : Int32) (σ : Mem) (H : Heap) (locs : List Loc) (ls : Array Slot), va_P D vwCl (W5 k ad (σ)) H → va_D A (W5 k ad (σ)) → va_S A s.heap H locs → lv_has ls 3 [] → (q_X5_ofLine_126 post px) s0 σ → W p l e rm_X5_ofLine s m args below meth c H locs 0 0 Q (F0 m 126 ls [.int s0]) := by
    intro s0 σ H locs ls hP hD hS hl hp
    unfold q_X5_ofLine_126 at hp
    exact hret s0 (σ) _ _ _ _ _ _ dX5_ofLine_126 rfl hP hD hS (Nat.le_of_ble_eq_true rfl) (Nat.le_of_ble_eq_true rfl) hp
  refine lv_aload_n hx hb dX5_ofLine_0 rfl (lv_at hl 0 rfl) ?_
  refine lv_iload_n hx hb dX5_ofLine_1 rfl (lv_at hl 1 rfl) ?_
  refine fw_ciV (As := [.int p1]) (rest := []) hC (c_X5_isLine l D k ad hp) (cwV 1 hts (gA_V A_236 A_237 A_238 A_25 A_234) rfl rfl rfl (by decide +kernel) ⟨Nat.le_of_ble_eq_true rfl, Nat.le_of_ble_eq_true rfl⟩) (va_recv hK hP (ci := 9) (q0 := 0) rfl rfl) rfl hl.1 rfl (Nat.le_of_ble_eq_true rfl) dX5_ofLine_2 ⟨Nat.le_of_ble_eq_true rfl, Nat.le_of_ble_eq_true rfl⟩ hP hD hS Jn.same (fun r1 σ2 H locs hP hD hS hp => ?_)
  have hP : va_P D vwCl (W5 k ad (σ2)) H := hP
  have hD : va_D A (W5 k ad (σ2)) := hD
  refine lv_if_ne (tgt := 18) hx hb dX5_ofLine_5 (by decide) (fun c3 => ?_) (fun c3 => ?_)
  · have hp := hp.1 c3
    refine lv_iload_n hx hb dX5_ofLine_18 rfl (lv_at hl 2 rfl) ?_
    rcases sw_in p2 7 (by decide) with c4 | ⟨j5, hj5, ej5⟩
    · have hp := hp.1 c4
      refine lv_tableOut (tgt := 148) hx hb dX5_ofLine_19 (sw_of c4) (by decide) ?_
      exact hthr "java/lang/IllegalArgumentException" "what is not 0 to 6" ["java/lang/RuntimeException", "java/lang/Exception"] 40 188 44 (k (1000 + 188)) (σ2) _ _ _ _ _ _ _ (by decide +kernel) (by decide +kernel) (hts _ (List.mem_cons_of_mem _ A_198)) (hts _ (List.mem_cons_of_mem _ A_199)) (GG.sx hG 7 rfl) (hat_44 (fun w h => hts w (List.mem_cons_of_mem _ h)) (GG.nc hG (q := ("java/lang/IllegalArgumentException", "java/lang/IllegalArgumentException")) 4 rfl) (GG.nd hG)) vO_44 hl.1 dX5_ofLine_148 dX5_ofLine_151 dX5_ofLine_152 dX5_ofLine_154 dX5_ofLine_157 (Nat.le_of_ble_eq_true rfl) (Nat.le_of_ble_eq_true rfl) (Nat.le_of_ble_eq_true rfl) (Nat.le_of_ble_eq_true rfl) hP hD hS (Nat.le_of_ble_eq_true rfl) (Nat.le_of_ble_eq_true rfl) hp
    · have hp := hp.2
      rcases (show j5 = 0 ∨ j5 = 1 ∨ j5 = 2 ∨ j5 = 3 ∨ j5 = 4 ∨ j5 = 5 ∨ j5 = 6 by omega) with rfl | rfl | rfl | rfl | rfl | rfl | rfl
      · have hp := hp.1 ej5
        refine lv_tableIn (tgt := 60) (off := 41) hx hb dX5_ofLine_19 (by rw [ej5]; decide) (by rw [ej5]; decide) (by rw [ej5]; rfl) (by decide) ?_
        refine lv_aload_n hx hb dX5_ofLine_60 rfl (lv_at hl 0 rfl) ?_
        refine va_get (D := D) (ci := 9) (C := RX5) (T := TX5) (N := 4) hx hb hts hin_X5 hown hK hP 0 rfl rfl 0 (by decide) hf_10 (fun _ h9 => h9) rfl dX5_ofLine_61 ?_
        refine va_get (D := D) (ci := 6) (C := RX2) (T := TX2) (N := 11) hx hb hts hin_X2 hown hK hP 1 rfl rfl 2 (by decide) hf_190 (fun _ h9 => h9) rfl dX5_ofLine_64 ?_
        refine lv_iload_n hx hb dX5_ofLine_67 rfl (lv_at hl 1 rfl) ?_
        obtain ⟨h6, hp⟩ := hp
        refine va_iald hx hb hK hP 4 0 rfl rfl h6 dX5_ofLine_68 ?_
        exact hret ((σ2) 4 p1.toNatClampNeg) (σ2) _ _ _ _ _ _ dX5_ofLine_69 rfl hP hD hS (Nat.le_of_ble_eq_true rfl) (Nat.le_of_ble_eq_true rfl) hp
      · have hp := hp.2.1 ej5
        refine lv_tableIn (tgt := 70) (off := 51) hx hb dX5_ofLine_19 (by rw [ej5]; decide) (by rw [ej5]; decide) (by rw [ej5]; rfl) (by decide) ?_
        refine lv_aload_n hx hb dX5_ofLine_70 rfl (lv_at hl 0 rfl) ?_
        refine va_get (D := D) (ci := 9) (C := RX5) (T := TX5) (N := 4) hx hb hts hin_X5 hown hK hP 0 rfl rfl 0 (by decide) hf_10 (fun _ h9 => h9) rfl dX5_ofLine_71 ?_
        refine va_get (D := D) (ci := 6) (C := RX2) (T := TX2) (N := 11) hx hb hts hin_X2 hown hK hP 1 rfl rfl 3 (by decide) hf_193 (fun _ h9 => h9) rfl dX5_ofLine_74 ?_
        refine lv_iload_n hx hb dX5_ofLine_77 rfl (lv_at hl 1 rfl) ?_
        obtain ⟨h7, hp⟩ := hp
        refine va_iald hx hb hK hP 5 0 rfl rfl h7 dX5_ofLine_78 ?_
        exact hret ((σ2) 5 p1.toNatClampNeg) (σ2) _ _ _ _ _ _ dX5_ofLine_79 rfl hP hD hS (Nat.le_of_ble_eq_true rfl) (Nat.le_of_ble_eq_true rfl) hp
      · have hp := hp.2.2.1 ej5
        refine lv_tableIn (tgt := 80) (off := 61) hx hb dX5_ofLine_19 (by rw [ej5]; decide) (by rw [ej5]; decide) (by rw [ej5]; rfl) (by decide) ?_
        refine lv_aload_n hx hb dX5_ofLine_80 rfl (lv_at hl 0 rfl) ?_
        refine va_get (D := D) (ci := 9) (C := RX5) (T := TX5) (N := 4) hx hb hts hin_X5 hown hK hP 0 rfl rfl 0 (by decide) hf_10 (fun _ h9 => h9) rfl dX5_ofLine_81 ?_
        refine va_get (D := D) (ci := 6) (C := RX2) (T := TX2) (N := 11) hx hb hts hin_X2 hown hK hP 1 rfl rfl 4 (by decide) hf_196 (fun _ h9 => h9) rfl dX5_ofLine_84 ?_
        refine lv_iload_n hx hb dX5_ofLine_87 rfl (lv_at hl 1 rfl) ?_
        obtain ⟨h8, hp⟩ := hp
        refine va_iald hx hb hK hP 6 0 rfl rfl h8 dX5_ofLine_88 ?_
        exact hret ((σ2) 6 p1.toNatClampNeg) (σ2) _ _ _ _ _ _ dX5_ofLine_89 rfl hP hD hS (Nat.le_of_ble_eq_true rfl) (Nat.le_of_ble_eq_true rfl) hp
      · have hp := hp.2.2.2.1 ej5
        refine lv_tableIn (tgt := 90) (off := 71) hx hb dX5_ofLine_19 (by rw [ej5]; decide) (by rw [ej5]; decide) (by rw [ej5]; rfl) (by decide) ?_
        refine lv_aload_n hx hb dX5_ofLine_90 rfl (lv_at hl 0 rfl) ?_
        refine va_get (D := D) (ci := 9) (C := RX5) (T := TX5) (N := 4) hx hb hts hin_X5 hown hK hP 0 rfl rfl 0 (by decide) hf_10 (fun _ h9 => h9) rfl dX5_ofLine_91 ?_
        refine va_get (D := D) (ci := 6) (C := RX2) (T := TX2) (N := 11) hx hb hts hin_X2 hown hK hP 1 rfl rfl 5 (by decide) hf_199 (fun _ h9 => h9) rfl dX5_ofLine_94 ?_
        refine lv_iload_n hx hb dX5_ofLine_97 rfl (lv_at hl 1 rfl) ?_
        obtain ⟨h9, hp⟩ := hp
        refine va_iald hx hb hK hP 7 0 rfl rfl h9 dX5_ofLine_98 ?_
        exact hret ((σ2) 7 p1.toNatClampNeg) (σ2) _ _ _ _ _ _ dX5_ofLine_99 rfl hP hD hS (Nat.le_of_ble_eq_true rfl) (Nat.le_of_ble_eq_true rfl) hp
      · have hp := hp.2.2.2.2.1 ej5
        refine lv_tableIn (tgt := 100) (off := 81) hx hb dX5_ofLine_19 (by rw [ej5]; decide) (by rw [ej5]; decide) (by rw [ej5]; rfl) (by decide) ?_
        refine lv_aload_n hx hb dX5_ofLine_100 rfl (lv_at hl 0 rfl) ?_
        refine va_get (D := D) (ci := 9) (C := RX5) (T := TX5) (N := 4) hx hb hts hin_X5 hown hK hP 0 rfl rfl 0 (by decide) hf_10 (fun _ h9 => h9) rfl dX5_ofLine_101 ?_
        refine va_get (D := D) (ci := 6) (C := RX2) (T := TX2) (N := 11) hx hb hts hin_X2 hown hK hP 1 rfl rfl 6 (by decide) hf_202 (fun _ h9 => h9) rfl dX5_ofLine_104 ?_
        refine lv_iload_n hx hb dX5_ofLine_107 rfl (lv_at hl 1 rfl) ?_
        obtain ⟨h10, hp⟩ := hp
        refine va_iald hx hb hK hP 8 0 rfl rfl h10 dX5_ofLine_108 ?_
        exact hret ((σ2) 8 p1.toNatClampNeg) (σ2) _ _ _ _ _ _ dX5_ofLine_109 rfl hP hD hS (Nat.le_of_ble_eq_true rfl) (Nat.le_of_ble_eq_true rfl) hp
      · have hp := hp.2.2.2.2.2.1 ej5
        refine lv_tableIn (tgt := 110) (off := 91) hx hb dX5_ofLine_19 (by rw [ej5]; decide) (by rw [ej5]; decide) (by rw [ej5]; rfl) (by decide) ?_
        refine lv_aload_n hx hb dX5_ofLine_110 rfl (lv_at hl 0 rfl) ?_
        refine va_get (D := D) (ci := 9) (C := RX5) (T := TX5) (N := 4) hx hb hts hin_X5 hown hK hP 0 rfl rfl 0 (by decide) hf_10 (fun _ h9 => h9) rfl dX5_ofLine_111 ?_
        refine lv_iload_n hx hb dX5_ofLine_114 rfl (lv_at hl 1 rfl) ?_
        refine fw_ciV (As := [.int p1]) (rest := []) hC (c_X2_counts l D k ad hp) (cwV 1 hts (gA_V A_239 A_92 A_93 A_29 A_89) rfl rfl rfl (by decide +kernel) ⟨Nat.le_of_ble_eq_true rfl, Nat.le_of_ble_eq_true rfl⟩) (va_recv hK hP (ci := 6) (q0 := 1) rfl rfl) rfl hl.1 rfl (Nat.le_of_ble_eq_true rfl) dX5_ofLine_115 ⟨Nat.le_of_ble_eq_true rfl, Nat.le_of_ble_eq_true rfl⟩ hP hD hS Jn.same (fun r11 σ12 H locs hP hD hS hp => ?_)
        have hP : va_P D vwCl (W5 k ad (σ12)) H := hP
        have hD : va_D A (W5 k ad (σ12)) := hD
        refine lv_if_eq (tgt := 125) hx hb dX5_ofLine_118 (by decide) (fun c13 => ?_) (fun c13 => ?_)
        · have hp := hp.1 c13
          refine lv_iconst (v := 0) hx hb dX5_ofLine_125 (by decide) ?_
          exact B_126 0 (σ12) _ _ _  hP hD hS (lv_sub hl [] rfl) hp
        · have hp := hp.2 c13
          refine lv_iconst (v := 1) hx hb dX5_ofLine_121 (by decide) ?_
          refine lv_goto (tgt := 126) hx hb dX5_ofLine_122 (by decide) ?_
          exact B_126 1 (σ12) _ _ _  hP hD hS (lv_sub hl [] rfl) hp
      · have hp := hp.2.2.2.2.2.2 ej5
        refine lv_tableIn (tgt := 127) (off := 108) hx hb dX5_ofLine_19 (by rw [ej5]; decide) (by rw [ej5]; decide) (by rw [ej5]; rfl) (by decide) ?_
        refine lv_aload_n hx hb dX5_ofLine_127 rfl (lv_at hl 0 rfl) ?_
        refine va_get (D := D) (ci := 9) (C := RX5) (T := TX5) (N := 4) hx hb hts hin_X5 hown hK hP 0 rfl rfl 1 (by decide) hf_21 (fun _ h9 => h9) rfl dX5_ofLine_128 ?_
        refine lv_iconst (v := (-1)) hx hb dX5_ofLine_131 (by decide) ?_
        refine fw_ciV (As := [.int (-1)]) (rest := []) hC (c_X4_reasonOf l D k ad hp) (cwV 1 hts (gA_V A_284 A_285 A_286 A_173 A_179) rfl rfl rfl (by decide +kernel) ⟨Nat.le_of_ble_eq_true rfl, Nat.le_of_ble_eq_true rfl⟩) (va_recv hK hP (ci := 8) (q0 := 11) rfl rfl) rfl hl.1 rfl (Nat.le_of_ble_eq_true rfl) dX5_ofLine_132 ⟨Nat.le_of_ble_eq_true rfl, Nat.le_of_ble_eq_true rfl⟩ hP hD hS Jn.same (fun r14 σ15 H locs hP hD hS hp => ?_)
        have hP : va_P D vwCl (W5 k ad (σ15)) H := hP
        have hD : va_D A (W5 k ad (σ15)) := hD
        refine lv_iload_n hx hb dX5_ofLine_135 rfl (lv_at hl 1 rfl) ?_
        refine fw_ciS (As := [.int r14, .int p1]) (rest := []) hC (c_X5_contains l D k hp) (va_cwS 2 hts (gA_S A_257 A_24 A_25 A_14) rfl rfl rfl (by decide +kernel) ⟨Nat.le_of_ble_eq_true rfl, Nat.le_of_ble_eq_true rfl⟩) rfl hl.1 rfl (Nat.le_of_ble_eq_true rfl) dX5_ofLine_136 ⟨Nat.le_of_ble_eq_true rfl, Nat.le_of_ble_eq_true rfl⟩ P_nil D_nil hS (Jn.pure (w0 := fun _ : Mem => []) hP hD) (fun r16 σ17 H locs hP hD hS hp => ?_)
        have hP : va_P D vwCl (W5 k ad (σ15)) H := hP
        have hD : va_D A (W5 k ad (σ15)) := hD
        refine lv_if_eq (tgt := 146) hx hb dX5_ofLine_139 (by decide) (fun c18 => ?_) (fun c18 => ?_)
        · have hp := hp.1 c18
          refine lv_iconst (v := 0) hx hb dX5_ofLine_146 (by decide) ?_
          exact B_147 0 (σ15) _ _ _  hP hD hS (lv_sub hl [] rfl) hp
        · have hp := hp.2 c18
          refine lv_iconst (v := 1) hx hb dX5_ofLine_142 (by decide) ?_
          refine lv_goto (tgt := 147) hx hb dX5_ofLine_143 (by decide) ?_
          exact B_147 1 (σ15) _ _ _  hP hD hS (lv_sub hl [] rfl) hp
  · have hp := hp.2 c3
    exact hthr "java/lang/IndexOutOfBoundsException" "no such line" ["java/lang/RuntimeException", "java/lang/Exception"] 65 95 69 (k (1000 + 95)) (σ2) _ _ _ _ _ _ _ (by decide +kernel) (by decide +kernel) (hts _ (List.mem_cons_of_mem _ A_217)) (hts _ (List.mem_cons_of_mem _ A_218)) (GG.sx hG 22 rfl) (hat_69 (fun w h => hts w (List.mem_cons_of_mem _ h)) (GG.nc hG (q := ("java/lang/IndexOutOfBoundsException", "java/lang/IndexOutOfBoundsException")) 6 rfl) (GG.nd hG)) vO_69 hl.1 dX5_ofLine_8 dX5_ofLine_11 dX5_ofLine_12 dX5_ofLine_14 dX5_ofLine_17 (Nat.le_of_ble_eq_true rfl) (Nat.le_of_ble_eq_true rfl) (Nat.le_of_ble_eq_true rfl) (Nat.le_of_ble_eq_true rfl) hP hD hS (Nat.le_of_ble_eq_true rfl) (Nat.le_of_ble_eq_true rfl) hp
def q_X5_ofMachine  (post : Int32 → Mem → Prop) (px : String → Mem → Prop) (p1 : Int32) (p2 : Int32) (σ : Mem) : Prop := (q_X5_isMachine (fun (r1 : Int32) (σ2 : Mem) => ((r1 ≠ 0 → ((sw_out p2 3 → (px "java/lang/IllegalArgumentException" (σ))) ∧ (p2 = nI 0 → (vp_in p1 6 ∧ post ((σ) 26 p1.toNatClampNeg) (σ))) ∧ (p2 = nI 1 → (q_X1_drifting (fun (r7 : Int32) (σ8 : Mem) => (q_J6_bitCount_0f7a4 (fun (r9 : Int32) (σ10 : Mem) => post r9 (σ8)) r7 (σ8))) p1 (σ))) ∧ (p2 = nI 2 → (q_X1_drifting (fun (r11 : Int32) (σ12 : Mem) => post r11 (σ12)) p1 (σ))))) ∧ (r1 = 0 → (px "java/lang/IndexOutOfBoundsException" (σ))))) p1 (σ))
abbrev rm_X5_ofMachine : Room := { frames := 6, cells := 1, slots := 6, locals := 200 }
abbrev wq_X5_ofMachine : List Cond := Cond.code yX5_ofMachine cX5_ofMachine 3 (some .int) :: wALL
set_option maxHeartbeats 4000000 in
set_option maxRecDepth 100000 in
theorem c_X5_ofMachine (l : Launch) (hflag : l.stackTraces = false) (D : va_G) (k ad : Nat → Nat) {sz : Nat} {σ : Mem} {p1 : Int32} {p2 : Int32} {post : Int32 → Mem → Prop} {px : String → Mem → Prop} (hp : q_X5_ofMachine post px p1 p2 σ) : vx_Met l yX5_ofMachine wq_X5_ofMachine rm_X5_ofMachine (va_Pc [.ref (ad 0), .int p1, .int p2] (Pw D k (W5 k ad (σ)) sz)) (va_Qi post (fun u => Bw D (W5 k ad (σ)) sz (W5 k ad u)) (va_A (W5 k ad (σ)) sz)) (vx_X (fun z : String × Mem => px z.1 z.2) (fun E z t => E = z.1 ∧ Bw D (W5 k ad (σ)) sz (W5 k ad z.2) t) (va_A (W5 k ad (σ)) sz)) 1 6 (va_A (W5 k ad (σ)) sz) := by
  refine fw_xi hflag (wf := fun u : Mem => W5 k ad u) (by decide) rfl (Nat.le_of_ble_eq_true rfl) ?_
  intro p e s m args below meth c A Q ls hC hP hD hl hret hthr
  obtain ⟨⟨hx, hb, hml, hown, hts⟩, hG, hA⟩ := id hC
  have hK := hG.1
  have hS : va_S A s.heap s.heap [] := va_S.rf
  have hin_X5 : ∀ w ∈ u_ws RX5 TX5 4, w ∈ wq_X5_ofMachine := fun w h => List.mem_cons_of_mem _ (iU_X5 w h)
  have hf_28 := hts _ (List.mem_cons_of_mem _ A_189)
  have hin_X1 : ∀ w ∈ u_ws RX1 TX1 4, w ∈ wq_X5_ofMachine := fun w h => List.mem_cons_of_mem _ (iU_X1 w h)
  have hf_210 := hts _ (List.mem_cons_of_mem _ A_288)
  have hl : lv_has ls 3 [(0, .ref (ad 0)), (1, .int p1), (2, .int p2)] := hl
  have hown : s.vm.findClass RX5 = some m.cls := hown
  unfold q_X5_ofMachine at hp
  refine lv_iload_n hx hb dX5_ofMachine_0 rfl (lv_at hl 1 rfl) ?_
  refine fw_ciS (As := [.int p1]) (rest := []) hC (c_X5_isMachine l D k hp) (va_cwS 1 hts (gA_S A_265 A_266 A_25 A_262) rfl rfl rfl (by decide +kernel) ⟨Nat.le_of_ble_eq_true rfl, Nat.le_of_ble_eq_true rfl⟩) rfl hl.1 rfl (Nat.le_of_ble_eq_true rfl) dX5_ofMachine_1 ⟨Nat.le_of_ble_eq_true rfl, Nat.le_of_ble_eq_true rfl⟩ P_nil D_nil hS (Jn.pure (w0 := fun _ : Mem => []) hP hD) (fun r1 σ2 H locs hP hD hS hp => ?_)
  have hP : va_P D vwCl (W5 k ad (σ)) H := hP
  have hD : va_D A (W5 k ad (σ)) := hD
  refine lv_if_ne (tgt := 17) hx hb dX5_ofMachine_4 (by decide) (fun c3 => ?_) (fun c3 => ?_)
  · have hp := hp.1 c3
    refine lv_iload_n hx hb dX5_ofMachine_17 rfl (lv_at hl 2 rfl) ?_
    rcases sw_in p2 3 (by decide) with c4 | ⟨j5, hj5, ej5⟩
    · have hp := hp.1 c4
      refine lv_tableOut (tgt := 75) hx hb dX5_ofMachine_18 (sw_of c4) (by decide) ?_
      exact hthr "java/lang/IllegalArgumentException" "what is not 0 to 2" ["java/lang/RuntimeException", "java/lang/Exception"] 40 216 44 (k (1000 + 216)) (σ) _ _ _ _ _ _ _ (by decide +kernel) (by decide +kernel) (hts _ (List.mem_cons_of_mem _ A_198)) (hts _ (List.mem_cons_of_mem _ A_199)) (GG.sx hG 9 rfl) (hat_44 (fun w h => hts w (List.mem_cons_of_mem _ h)) (GG.nc hG (q := ("java/lang/IllegalArgumentException", "java/lang/IllegalArgumentException")) 4 rfl) (GG.nd hG)) vO_44 hl.1 dX5_ofMachine_75 dX5_ofMachine_78 dX5_ofMachine_79 dX5_ofMachine_81 dX5_ofMachine_84 (Nat.le_of_ble_eq_true rfl) (Nat.le_of_ble_eq_true rfl) (Nat.le_of_ble_eq_true rfl) (Nat.le_of_ble_eq_true rfl) hP hD hS (Nat.le_of_ble_eq_true rfl) (Nat.le_of_ble_eq_true rfl) hp
    · have hp := hp.2
      rcases (show j5 = 0 ∨ j5 = 1 ∨ j5 = 2 by omega) with rfl | rfl | rfl
      · have hp := hp.1 ej5
        refine lv_tableIn (tgt := 44) (off := 26) hx hb dX5_ofMachine_18 (by rw [ej5]; decide) (by rw [ej5]; decide) (by rw [ej5]; rfl) (by decide) ?_
        refine lv_aload_n hx hb dX5_ofMachine_44 rfl (lv_at hl 0 rfl) ?_
        refine va_get (D := D) (ci := 9) (C := RX5) (T := TX5) (N := 4) hx hb hts hin_X5 hown hK hP 0 rfl rfl 2 (by decide) hf_28 (fun _ h9 => h9) rfl dX5_ofMachine_45 ?_
        refine va_get (D := D) (ci := 5) (C := RX1) (T := TX1) (N := 4) hx hb hts hin_X1 hown hK hP 23 rfl rfl 2 (by decide) hf_210 (fun _ h9 => h9) rfl dX5_ofMachine_48 ?_
        refine lv_iload_n hx hb dX5_ofMachine_51 rfl (lv_at hl 1 rfl) ?_
        obtain ⟨h6, hp⟩ := hp
        refine va_iald hx hb hK hP 26 0 rfl rfl h6 dX5_ofMachine_52 ?_
        exact hret ((σ) 26 p1.toNatClampNeg) (σ) _ _ _ _ _ _ dX5_ofMachine_53 rfl hP hD hS (Nat.le_of_ble_eq_true rfl) (Nat.le_of_ble_eq_true rfl) hp
      · have hp := hp.2.1 ej5
        refine lv_tableIn (tgt := 54) (off := 36) hx hb dX5_ofMachine_18 (by rw [ej5]; decide) (by rw [ej5]; decide) (by rw [ej5]; rfl) (by decide) ?_
        refine lv_aload_n hx hb dX5_ofMachine_54 rfl (lv_at hl 0 rfl) ?_
        refine va_get (D := D) (ci := 9) (C := RX5) (T := TX5) (N := 4) hx hb hts hin_X5 hown hK hP 0 rfl rfl 2 (by decide) hf_28 (fun _ h9 => h9) rfl dX5_ofMachine_55 ?_
        refine lv_iload_n hx hb dX5_ofMachine_58 rfl (lv_at hl 1 rfl) ?_
        refine fw_ciV (As := [.int p1]) (rest := []) hC (c_X1_drifting l D k ad hp) (cwV 1 hts (gA_V A_289 A_71 A_72 A_68 A_64) rfl rfl rfl (by decide +kernel) ⟨Nat.le_of_ble_eq_true rfl, Nat.le_of_ble_eq_true rfl⟩) (va_recv hK hP (ci := 5) (q0 := 23) rfl rfl) rfl hl.1 rfl (Nat.le_of_ble_eq_true rfl) dX5_ofMachine_59 ⟨Nat.le_of_ble_eq_true rfl, Nat.le_of_ble_eq_true rfl⟩ hP hD hS Jn.same (fun r7 σ8 H locs hP hD hS hp => ?_)
        have hP : va_P D vwCl (W5 k ad (σ8)) H := hP
        have hD : va_D A (W5 k ad (σ8)) := hD
        refine fw_ciS (As := [.int r7]) (rest := []) hC (c_J6_bitCount_0f7a4 l D k hp) (va_cwS 1 hts (gA_S A_274 A_149 A_150 A_141) rfl rfl rfl (by decide +kernel) ⟨Nat.le_of_ble_eq_true rfl, Nat.le_of_ble_eq_true rfl⟩) rfl hl.1 rfl (Nat.le_of_ble_eq_true rfl) dX5_ofMachine_62 ⟨Nat.le_of_ble_eq_true rfl, Nat.le_of_ble_eq_true rfl⟩ P_nil D_nil hS (Jn.pure (w0 := fun _ : Mem => []) hP hD) (fun r9 σ10 H locs hP hD hS hp => ?_)
        have hP : va_P D vwCl (W5 k ad (σ8)) H := hP
        have hD : va_D A (W5 k ad (σ8)) := hD
        exact hret r9 (σ8) _ _ _ _ _ _ dX5_ofMachine_65 rfl hP hD hS (Nat.le_of_ble_eq_true rfl) (Nat.le_of_ble_eq_true rfl) hp
      · have hp := hp.2.2 ej5
        refine lv_tableIn (tgt := 66) (off := 48) hx hb dX5_ofMachine_18 (by rw [ej5]; decide) (by rw [ej5]; decide) (by rw [ej5]; rfl) (by decide) ?_
        refine lv_aload_n hx hb dX5_ofMachine_66 rfl (lv_at hl 0 rfl) ?_
        refine va_get (D := D) (ci := 9) (C := RX5) (T := TX5) (N := 4) hx hb hts hin_X5 hown hK hP 0 rfl rfl 2 (by decide) hf_28 (fun _ h9 => h9) rfl dX5_ofMachine_67 ?_
        refine lv_iload_n hx hb dX5_ofMachine_70 rfl (lv_at hl 1 rfl) ?_
        refine fw_ciV (As := [.int p1]) (rest := []) hC (c_X1_drifting l D k ad hp) (cwV 1 hts (gA_V A_289 A_71 A_72 A_68 A_64) rfl rfl rfl (by decide +kernel) ⟨Nat.le_of_ble_eq_true rfl, Nat.le_of_ble_eq_true rfl⟩) (va_recv hK hP (ci := 5) (q0 := 23) rfl rfl) rfl hl.1 rfl (Nat.le_of_ble_eq_true rfl) dX5_ofMachine_71 ⟨Nat.le_of_ble_eq_true rfl, Nat.le_of_ble_eq_true rfl⟩ hP hD hS Jn.same (fun r11 σ12 H locs hP hD hS hp => ?_)
        have hP : va_P D vwCl (W5 k ad (σ12)) H := hP
        have hD : va_D A (W5 k ad (σ12)) := hD
        exact hret r11 (σ12) _ _ _ _ _ _ dX5_ofMachine_74 rfl hP hD hS (Nat.le_of_ble_eq_true rfl) (Nat.le_of_ble_eq_true rfl) hp
  · have hp := hp.2 c3
    exact hthr "java/lang/IndexOutOfBoundsException" "machine is not 0 to 5" ["java/lang/RuntimeException", "java/lang/Exception"] 65 208 69 (k (1000 + 208)) (σ) _ _ _ _ _ _ _ (by decide +kernel) (by decide +kernel) (hts _ (List.mem_cons_of_mem _ A_217)) (hts _ (List.mem_cons_of_mem _ A_218)) (GG.sx hG 8 rfl) (hat_69 (fun w h => hts w (List.mem_cons_of_mem _ h)) (GG.nc hG (q := ("java/lang/IndexOutOfBoundsException", "java/lang/IndexOutOfBoundsException")) 6 rfl) (GG.nd hG)) vO_69 hl.1 dX5_ofMachine_7 dX5_ofMachine_10 dX5_ofMachine_11 dX5_ofMachine_13 dX5_ofMachine_16 (Nat.le_of_ble_eq_true rfl) (Nat.le_of_ble_eq_true rfl) (Nat.le_of_ble_eq_true rfl) (Nat.le_of_ble_eq_true rfl) hP hD hS (Nat.le_of_ble_eq_true rfl) (Nat.le_of_ble_eq_true rfl) hp
def q_X5_has_15  (post : Int32 → Mem → Prop) (px : String → Mem → Prop)  (σ : Mem) : Prop := (px "java/lang/IndexOutOfBoundsException" (σ))
def q_X5_has  (post : Int32 → Mem → Prop) (px : String → Mem → Prop) (p1 : Int32) (p2 : Int32) (σ : Mem) : Prop := (q_X5_isMachine (fun (r1 : Int32) (σ2 : Mem) => ((r1 = 0 → (q_X5_has_15 post px) (σ)) ∧ (¬ (r1 = 0) → (q_X5_isField (fun (r4 : Int32) (σ5 : Mem) => ((r4 ≠ 0 → (vp_in p1 6 ∧ (vp_in p2 5 ∧ post ((σ5) (39 + p1.toNatClampNeg) p2.toNatClampNeg) (σ5)))) ∧ (r4 = 0 → (q_X5_has_15 post px) (σ5)))) p2 (σ))))) p1 (σ))
abbrev rm_X5_has : Room := { frames := 6, cells := 1, slots := 6, locals := 200 }
abbrev wq_X5_has : List Cond := Cond.code yX5_has cX5_has 3 (some .int) :: wALL
set_option maxHeartbeats 4000000 in
set_option maxRecDepth 100000 in
theorem c_X5_has (l : Launch) (hflag : l.stackTraces = false) (D : va_G) (k ad : Nat → Nat) {sz : Nat} {σ : Mem} {p1 : Int32} {p2 : Int32} {post : Int32 → Mem → Prop} {px : String → Mem → Prop} (hp : q_X5_has post px p1 p2 σ) : vx_Met l yX5_has wq_X5_has rm_X5_has (va_Pc [.ref (ad 0), .int p1, .int p2] (Pw D k (W5 k ad (σ)) sz)) (va_Qi post (fun u => Bw D (W5 k ad (σ)) sz (W5 k ad u)) (va_A (W5 k ad (σ)) sz)) (vx_X (fun z : String × Mem => px z.1 z.2) (fun E z t => E = z.1 ∧ Bw D (W5 k ad (σ)) sz (W5 k ad z.2) t) (va_A (W5 k ad (σ)) sz)) 1 6 (va_A (W5 k ad (σ)) sz) := by
  refine fw_xi hflag (wf := fun u : Mem => W5 k ad u) (by decide) rfl (Nat.le_of_ble_eq_true rfl) ?_
  intro p e s m args below meth c A Q ls hC hP hD hl hret hthr
  obtain ⟨⟨hx, hb, hml, hown, hts⟩, hG, hA⟩ := id hC
  have hK := hG.1
  have hS : va_S A s.heap s.heap [] := va_S.rf
  have hin_X5 : ∀ w ∈ u_ws RX5 TX5 4, w ∈ wq_X5_has := fun w h => List.mem_cons_of_mem _ (iU_X5 w h)
  have hf_28 := hts _ (List.mem_cons_of_mem _ A_189)
  have hin_X1 : ∀ w ∈ u_ws RX1 TX1 4, w ∈ wq_X5_has := fun w h => List.mem_cons_of_mem _ (iU_X1 w h)
  have hf_156 := hts _ (List.mem_cons_of_mem _ A_264)
  have hl : lv_has ls 3 [(0, .ref (ad 0)), (1, .int p1), (2, .int p2)] := hl
  have hown : s.vm.findClass RX5 = some m.cls := hown
  unfold q_X5_has at hp
  have B_15 : ∀  (σ : Mem) (H : Heap) (locs : List Loc) (ls : Array Slot), va_P D vwCl (W5 k ad (σ)) H → va_D A (W5 k ad (σ)) → va_S A s.heap H locs → lv_has ls 3 [] → (q_X5_has_15 post px)  σ → W p l e rm_X5_has s m args below meth c H locs 0 0 Q (F0 m 15 ls []) := by
    intro  σ H locs ls hP hD hS hl hp
    unfold q_X5_has_15 at hp
    exact hthr "java/lang/IndexOutOfBoundsException" "no such machine or field" ["java/lang/RuntimeException", "java/lang/Exception"] 65 152 69 (k (1000 + 152)) (σ) _ _ _ _ _ _ _ (by decide +kernel) (by decide +kernel) (hts _ (List.mem_cons_of_mem _ A_217)) (hts _ (List.mem_cons_of_mem _ A_218)) (GG.sx hG 4 rfl) (hat_69 (fun w h => hts w (List.mem_cons_of_mem _ h)) (GG.nc hG (q := ("java/lang/IndexOutOfBoundsException", "java/lang/IndexOutOfBoundsException")) 6 rfl) (GG.nd hG)) vO_69 hl.1 dX5_has_15 dX5_has_18 dX5_has_19 dX5_has_21 dX5_has_24 (Nat.le_of_ble_eq_true rfl) (Nat.le_of_ble_eq_true rfl) (Nat.le_of_ble_eq_true rfl) (Nat.le_of_ble_eq_true rfl) hP hD hS (Nat.le_of_ble_eq_true rfl) (Nat.le_of_ble_eq_true rfl) hp
  refine lv_iload_n hx hb dX5_has_0 rfl (lv_at hl 1 rfl) ?_
  refine fw_ciS (As := [.int p1]) (rest := []) hC (c_X5_isMachine l D k hp) (va_cwS 1 hts (gA_S A_265 A_266 A_25 A_262) rfl rfl rfl (by decide +kernel) ⟨Nat.le_of_ble_eq_true rfl, Nat.le_of_ble_eq_true rfl⟩) rfl hl.1 rfl (Nat.le_of_ble_eq_true rfl) dX5_has_1 ⟨Nat.le_of_ble_eq_true rfl, Nat.le_of_ble_eq_true rfl⟩ P_nil D_nil hS (Jn.pure (w0 := fun _ : Mem => []) hP hD) (fun r1 σ2 H locs hP hD hS hp => ?_)
  have hP : va_P D vwCl (W5 k ad (σ)) H := hP
  have hD : va_D A (W5 k ad (σ)) := hD
  refine lv_if_eq (tgt := 15) hx hb dX5_has_4 (by decide) (fun c3 => ?_) (fun c3 => ?_)
  · have hp := hp.1 c3
    exact B_15  (σ) _ _ _  hP hD hS (lv_sub hl [] rfl) hp
  · have hp := hp.2 c3
    refine lv_aload_n hx hb dX5_has_7 rfl (lv_at hl 0 rfl) ?_
    refine lv_iload_n hx hb dX5_has_8 rfl (lv_at hl 2 rfl) ?_
    refine fw_ciV (As := [.int p2]) (rest := []) hC (c_X5_isField l D k ad hp) (cwV 1 hts (gA_V A_220 A_221 A_222 A_25 A_212) rfl rfl rfl (by decide +kernel) ⟨Nat.le_of_ble_eq_true rfl, Nat.le_of_ble_eq_true rfl⟩) (va_recv hK hP (ci := 9) (q0 := 0) rfl rfl) rfl hl.1 rfl (Nat.le_of_ble_eq_true rfl) dX5_has_9 ⟨Nat.le_of_ble_eq_true rfl, Nat.le_of_ble_eq_true rfl⟩ hP hD hS Jn.same (fun r4 σ5 H locs hP hD hS hp => ?_)
    have hP : va_P D vwCl (W5 k ad (σ5)) H := hP
    have hD : va_D A (W5 k ad (σ5)) := hD
    refine lv_if_ne (tgt := 25) hx hb dX5_has_12 (by decide) (fun c6 => ?_) (fun c6 => ?_)
    · have hp := hp.1 c6
      refine lv_aload_n hx hb dX5_has_25 rfl (lv_at hl 0 rfl) ?_
      refine va_get (D := D) (ci := 9) (C := RX5) (T := TX5) (N := 4) hx hb hts hin_X5 hown hK hP 0 rfl rfl 2 (by decide) hf_28 (fun _ h9 => h9) rfl dX5_has_26 ?_
      refine va_get (D := D) (ci := 5) (C := RX1) (T := TX1) (N := 4) hx hb hts hin_X1 hown hK hP 23 rfl rfl 1 (by decide) hf_156 (fun _ h9 => h9) rfl dX5_has_29 ?_
      refine lv_iload_n hx hb dX5_has_32 rfl (lv_at hl 1 rfl) ?_
      obtain ⟨h7, hp⟩ := hp
      refine va_ald2 hx hb hK hP 25 2 rfl rfl h7 (if_some (vin_lt h7) _) dX5_has_33 ?_
      refine lv_iload_n hx hb dX5_has_34 rfl (lv_at hl 2 rfl) ?_
      obtain ⟨h8, hp⟩ := hp
      refine va_iald hx hb hK hP (39 + p1.toNatClampNeg) 0 (W5_had k ad (σ5) (vin_lt h7)) rfl h8 dX5_has_35 ?_
      exact hret ((σ5) (39 + p1.toNatClampNeg) p2.toNatClampNeg) (σ5) _ _ _ _ _ _ dX5_has_36 rfl hP hD hS (Nat.le_of_ble_eq_true rfl) (Nat.le_of_ble_eq_true rfl) hp
    · have hp := hp.2 c6
      exact B_15  (σ5) _ _ _  hP hD hS (lv_sub hl [] rfl) hp
def q_X5_ofCommit_16  (post : Int32 → Mem → Prop) (px : String → Mem → Prop)  (σ : Mem) : Prop := (px "java/lang/IndexOutOfBoundsException" (σ))
def q_X5_ofCommit  (post : Int32 → Mem → Prop) (px : String → Mem → Prop) (p1 : Int32) (p2 : Int32) (σ : Mem) : Prop := (q_X5_isCommit (fun (r1 : Int32) (σ2 : Mem) => ((r1 = 0 → (q_X5_ofCommit_16 post px) (σ2)) ∧ (¬ (r1 = 0) → (q_X5_isField (fun (r4 : Int32) (σ5 : Mem) => ((r4 ≠ 0 → (vp_in p1 12 ∧ (vp_in p2 5 ∧ post ((σ5) (27 + p1.toNatClampNeg) p2.toNatClampNeg) (σ5)))) ∧ (r4 = 0 → (q_X5_ofCommit_16 post px) (σ5)))) p2 (σ2))))) p1 (σ))
abbrev rm_X5_ofCommit : Room := { frames := 6, cells := 1, slots := 6, locals := 200 }
abbrev wq_X5_ofCommit : List Cond := Cond.code yX5_ofCommit cX5_ofCommit 3 (some .int) :: wALL
set_option maxHeartbeats 4000000 in
set_option maxRecDepth 100000 in
theorem c_X5_ofCommit (l : Launch) (hflag : l.stackTraces = false) (D : va_G) (k ad : Nat → Nat) {sz : Nat} {σ : Mem} {p1 : Int32} {p2 : Int32} {post : Int32 → Mem → Prop} {px : String → Mem → Prop} (hp : q_X5_ofCommit post px p1 p2 σ) : vx_Met l yX5_ofCommit wq_X5_ofCommit rm_X5_ofCommit (va_Pc [.ref (ad 0), .int p1, .int p2] (Pw D k (W5 k ad (σ)) sz)) (va_Qi post (fun u => Bw D (W5 k ad (σ)) sz (W5 k ad u)) (va_A (W5 k ad (σ)) sz)) (vx_X (fun z : String × Mem => px z.1 z.2) (fun E z t => E = z.1 ∧ Bw D (W5 k ad (σ)) sz (W5 k ad z.2) t) (va_A (W5 k ad (σ)) sz)) 1 6 (va_A (W5 k ad (σ)) sz) := by
  refine fw_xi hflag (wf := fun u : Mem => W5 k ad u) (by decide) rfl (Nat.le_of_ble_eq_true rfl) ?_
  intro p e s m args below meth c A Q ls hC hP hD hl hret hthr
  obtain ⟨⟨hx, hb, hml, hown, hts⟩, hG, hA⟩ := id hC
  have hK := hG.1
  have hS : va_S A s.heap s.heap [] := va_S.rf
  have hin_X5 : ∀ w ∈ u_ws RX5 TX5 4, w ∈ wq_X5_ofCommit := fun w h => List.mem_cons_of_mem _ (iU_X5 w h)
  have hf_28 := hts _ (List.mem_cons_of_mem _ A_189)
  have hin_X1 : ∀ w ∈ u_ws RX1 TX1 4, w ∈ wq_X5_ofCommit := fun w h => List.mem_cons_of_mem _ (iU_X1 w h)
  have hf_220 := hts _ (List.mem_cons_of_mem _ A_293)
  have hl : lv_has ls 3 [(0, .ref (ad 0)), (1, .int p1), (2, .int p2)] := hl
  have hown : s.vm.findClass RX5 = some m.cls := hown
  unfold q_X5_ofCommit at hp
  have B_16 : ∀  (σ : Mem) (H : Heap) (locs : List Loc) (ls : Array Slot), va_P D vwCl (W5 k ad (σ)) H → va_D A (W5 k ad (σ)) → va_S A s.heap H locs → lv_has ls 3 [] → (q_X5_ofCommit_16 post px)  σ → W p l e rm_X5_ofCommit s m args below meth c H locs 0 0 Q (F0 m 16 ls []) := by
    intro  σ H locs ls hP hD hS hl hp
    unfold q_X5_ofCommit_16 at hp
    exact hthr "java/lang/IndexOutOfBoundsException" "no such commit or field" ["java/lang/RuntimeException", "java/lang/Exception"] 65 218 69 (k (1000 + 218)) (σ) _ _ _ _ _ _ _ (by decide +kernel) (by decide +kernel) (hts _ (List.mem_cons_of_mem _ A_217)) (hts _ (List.mem_cons_of_mem _ A_218)) (GG.sx hG 10 rfl) (hat_69 (fun w h => hts w (List.mem_cons_of_mem _ h)) (GG.nc hG (q := ("java/lang/IndexOutOfBoundsException", "java/lang/IndexOutOfBoundsException")) 6 rfl) (GG.nd hG)) vO_69 hl.1 dX5_ofCommit_16 dX5_ofCommit_19 dX5_ofCommit_20 dX5_ofCommit_22 dX5_ofCommit_25 (Nat.le_of_ble_eq_true rfl) (Nat.le_of_ble_eq_true rfl) (Nat.le_of_ble_eq_true rfl) (Nat.le_of_ble_eq_true rfl) hP hD hS (Nat.le_of_ble_eq_true rfl) (Nat.le_of_ble_eq_true rfl) hp
  refine lv_aload_n hx hb dX5_ofCommit_0 rfl (lv_at hl 0 rfl) ?_
  refine lv_iload_n hx hb dX5_ofCommit_1 rfl (lv_at hl 1 rfl) ?_
  refine fw_ciV (As := [.int p1]) (rest := []) hC (c_X5_isCommit l D k ad hp) (cwV 1 hts (gA_V A_254 A_255 A_256 A_25 A_253) rfl rfl rfl (by decide +kernel) ⟨Nat.le_of_ble_eq_true rfl, Nat.le_of_ble_eq_true rfl⟩) (va_recv hK hP (ci := 9) (q0 := 0) rfl rfl) rfl hl.1 rfl (Nat.le_of_ble_eq_true rfl) dX5_ofCommit_2 ⟨Nat.le_of_ble_eq_true rfl, Nat.le_of_ble_eq_true rfl⟩ hP hD hS Jn.same (fun r1 σ2 H locs hP hD hS hp => ?_)
  have hP : va_P D vwCl (W5 k ad (σ2)) H := hP
  have hD : va_D A (W5 k ad (σ2)) := hD
  refine lv_if_eq (tgt := 16) hx hb dX5_ofCommit_5 (by decide) (fun c3 => ?_) (fun c3 => ?_)
  · have hp := hp.1 c3
    exact B_16  (σ2) _ _ _  hP hD hS (lv_sub hl [] rfl) hp
  · have hp := hp.2 c3
    refine lv_aload_n hx hb dX5_ofCommit_8 rfl (lv_at hl 0 rfl) ?_
    refine lv_iload_n hx hb dX5_ofCommit_9 rfl (lv_at hl 2 rfl) ?_
    refine fw_ciV (As := [.int p2]) (rest := []) hC (c_X5_isField l D k ad hp) (cwV 1 hts (gA_V A_220 A_221 A_222 A_25 A_212) rfl rfl rfl (by decide +kernel) ⟨Nat.le_of_ble_eq_true rfl, Nat.le_of_ble_eq_true rfl⟩) (va_recv hK hP (ci := 9) (q0 := 0) rfl rfl) rfl hl.1 rfl (Nat.le_of_ble_eq_true rfl) dX5_ofCommit_10 ⟨Nat.le_of_ble_eq_true rfl, Nat.le_of_ble_eq_true rfl⟩ hP hD hS Jn.same (fun r4 σ5 H locs hP hD hS hp => ?_)
    have hP : va_P D vwCl (W5 k ad (σ5)) H := hP
    have hD : va_D A (W5 k ad (σ5)) := hD
    refine lv_if_ne (tgt := 26) hx hb dX5_ofCommit_13 (by decide) (fun c6 => ?_) (fun c6 => ?_)
    · have hp := hp.1 c6
      refine lv_aload_n hx hb dX5_ofCommit_26 rfl (lv_at hl 0 rfl) ?_
      refine va_get (D := D) (ci := 9) (C := RX5) (T := TX5) (N := 4) hx hb hts hin_X5 hown hK hP 0 rfl rfl 2 (by decide) hf_28 (fun _ h9 => h9) rfl dX5_ofCommit_27 ?_
      refine va_get (D := D) (ci := 5) (C := RX1) (T := TX1) (N := 4) hx hb hts hin_X1 hown hK hP 23 rfl rfl 0 (by decide) hf_220 (fun _ h9 => h9) rfl dX5_ofCommit_30 ?_
      refine lv_iload_n hx hb dX5_ofCommit_33 rfl (lv_at hl 1 rfl) ?_
      obtain ⟨h7, hp⟩ := hp
      refine va_ald2 hx hb hK hP 24 2 rfl rfl h7 (if_some (vin_lt h7) _) dX5_ofCommit_34 ?_
      refine lv_iload_n hx hb dX5_ofCommit_35 rfl (lv_at hl 2 rfl) ?_
      obtain ⟨h8, hp⟩ := hp
      refine va_iald hx hb hK hP (27 + p1.toNatClampNeg) 0 (W5_kept k ad (σ5) (vin_lt h7)) rfl h8 dX5_ofCommit_36 ?_
      exact hret ((σ5) (27 + p1.toNatClampNeg) p2.toNatClampNeg) (σ5) _ _ _ _ _ _ dX5_ofCommit_37 rfl hP hD hS (Nat.le_of_ble_eq_true rfl) (Nat.le_of_ble_eq_true rfl) hp
    · have hp := hp.2 c6
      exact B_16  (σ5) _ _ _  hP hD hS (lv_sub hl [] rfl) hp
def q_X5_house_94  (post : Int32 → Mem → Prop) (px : String → Mem → Prop)  (s0 : Int32) (σ : Mem) : Prop := post s0 (σ)
def q_X5_house  (post : Int32 → Mem → Prop) (px : String → Mem → Prop) (p1 : Int32) (σ : Mem) : Prop := ((sw_out p1 9 → (px "java/lang/IllegalArgumentException" (σ))) ∧ (p1 = nI 0 → post ((σ) 1 9) (σ)) ∧ (p1 = nI 1 → post ((σ) 1 10) (σ)) ∧ (p1 = nI 2 → (q_X2_countingLines (fun (r3 : Int32) (σ4 : Mem) => post r3 (σ4)) (σ))) ∧ (p1 = nI 3 → ((((σ) 12 2) = 0 → (q_X5_house_94 post px) 0 (σ)) ∧ (¬ (((σ) 12 2) = 0) → (q_X5_house_94 post px) 1 (σ)))) ∧ (p1 = nI 4 → (q_X4_settledFields (fun (r6 : Int32) (σ7 : Mem) => post r6 (σ7)) (σ))) ∧ (p1 = nI 5 → post ((σ) 23 3) (σ)) ∧ (p1 = nI 6 → (q_X1_driftingMachines (fun (r8 : Int32) (σ9 : Mem) => post r8 (σ9)) (σ))) ∧ (p1 = nI 7 → post ((σ) 18 4) (σ)) ∧ (p1 = nI 8 → post ((σ) 0 3) (σ)))
abbrev rm_X5_house : Room := { frames := 6, cells := 1, slots := 6, locals := 200 }
abbrev wq_X5_house : List Cond := Cond.code yX5_house cX5_house 2 (some .int) :: wALL
set_option maxHeartbeats 4000000 in
set_option maxRecDepth 100000 in
theorem c_X5_house (l : Launch) (hflag : l.stackTraces = false) (D : va_G) (k ad : Nat → Nat) {sz : Nat} {σ : Mem} {p1 : Int32} {post : Int32 → Mem → Prop} {px : String → Mem → Prop} (hp : q_X5_house post px p1 σ) : vx_Met l yX5_house wq_X5_house rm_X5_house (va_Pc [.ref (ad 0), .int p1] (Pw D k (W5 k ad (σ)) sz)) (va_Qi post (fun u => Bw D (W5 k ad (σ)) sz (W5 k ad u)) (va_A (W5 k ad (σ)) sz)) (vx_X (fun z : String × Mem => px z.1 z.2) (fun E z t => E = z.1 ∧ Bw D (W5 k ad (σ)) sz (W5 k ad z.2) t) (va_A (W5 k ad (σ)) sz)) 1 6 (va_A (W5 k ad (σ)) sz) := by
  refine fw_xi hflag (wf := fun u : Mem => W5 k ad u) (by decide) rfl (Nat.le_of_ble_eq_true rfl) ?_
  intro p e s m args below meth c A Q ls hC hP hD hl hret hthr
  obtain ⟨⟨hx, hb, hml, hown, hts⟩, hG, hA⟩ := id hC
  have hK := hG.1
  have hS : va_S A s.heap s.heap [] := va_S.rf
  have hin_X5 : ∀ w ∈ u_ws RX5 TX5 4, w ∈ wq_X5_house := fun w h => List.mem_cons_of_mem _ (iU_X5 w h)
  have hf_10 := hts _ (List.mem_cons_of_mem _ A_183)
  have hin_X2 : ∀ w ∈ u_ws RX2 TX2 11, w ∈ wq_X5_house := fun w h => List.mem_cons_of_mem _ (iU_X2 w h)
  have hf_47 := hts _ (List.mem_cons_of_mem _ A_202)
  have hf_72 := hts _ (List.mem_cons_of_mem _ A_219)
  have hf_21 := hts _ (List.mem_cons_of_mem _ A_186)
  have hin_X4 : ∀ w ∈ u_ws RX4 TX4 7, w ∈ wq_X5_house := fun w h => List.mem_cons_of_mem _ (iU_X4 w h)
  have hf_113 := hts _ (List.mem_cons_of_mem _ A_246)
  have hin_X3 : ∀ w ∈ u_ws RX3 TX3 3, w ∈ wq_X5_house := fun w h => List.mem_cons_of_mem _ (iU_X3 w h)
  have hf_117 := hts _ (List.mem_cons_of_mem _ A_247)
  have hf_28 := hts _ (List.mem_cons_of_mem _ A_189)
  have hin_X1 : ∀ w ∈ u_ws RX1 TX1 4, w ∈ wq_X5_house := fun w h => List.mem_cons_of_mem _ (iU_X1 w h)
  have hf_123 := hts _ (List.mem_cons_of_mem _ A_248)
  have hf_176 := hts _ (List.mem_cons_of_mem _ A_272)
  have hin_X0 : ∀ w ∈ u_ws RX0 TX0 7, w ∈ wq_X5_house := fun w h => List.mem_cons_of_mem _ (iU_X0 w h)
  have hf_233 := hts _ (List.mem_cons_of_mem _ A_294)
  have hf_32 := hts _ (List.mem_cons_of_mem _ A_190)
  have hl : lv_has ls 2 [(0, .ref (ad 0)), (1, .int p1)] := hl
  have hown : s.vm.findClass RX5 = some m.cls := hown
  unfold q_X5_house at hp
  have B_94 : ∀ (s0 : Int32) (σ : Mem) (H : Heap) (locs : List Loc) (ls : Array Slot), va_P D vwCl (W5 k ad (σ)) H → va_D A (W5 k ad (σ)) → va_S A s.heap H locs → lv_has ls 2 [] → (q_X5_house_94 post px) s0 σ → W p l e rm_X5_house s m args below meth c H locs 0 0 Q (F0 m 94 ls [.int s0]) := by
    intro s0 σ H locs ls hP hD hS hl hp
    unfold q_X5_house_94 at hp
    exact hret s0 (σ) _ _ _ _ _ _ dX5_house_94 rfl hP hD hS (Nat.le_of_ble_eq_true rfl) (Nat.le_of_ble_eq_true rfl) hp
  refine lv_iload_n hx hb dX5_house_0 rfl (lv_at hl 1 rfl) ?_
  rcases sw_in p1 9 (by decide) with c1 | ⟨j2, hj2, ej2⟩
  · have hp := hp.1 c1
    refine lv_tableOut (tgt := 135) hx hb dX5_house_1 (sw_of c1) (by decide) ?_
    exact hthr "java/lang/IllegalArgumentException" "what is not 0 to 8" ["java/lang/RuntimeException", "java/lang/Exception"] 40 236 44 (k (1000 + 236)) (σ) _ _ _ _ _ _ _ (by decide +kernel) (by decide +kernel) (hts _ (List.mem_cons_of_mem _ A_198)) (hts _ (List.mem_cons_of_mem _ A_199)) (GG.sx hG 11 rfl) (hat_44 (fun w h => hts w (List.mem_cons_of_mem _ h)) (GG.nc hG (q := ("java/lang/IllegalArgumentException", "java/lang/IllegalArgumentException")) 4 rfl) (GG.nd hG)) vO_44 hl.1 dX5_house_135 dX5_house_138 dX5_house_139 dX5_house_141 dX5_house_144 (Nat.le_of_ble_eq_true rfl) (Nat.le_of_ble_eq_true rfl) (Nat.le_of_ble_eq_true rfl) (Nat.le_of_ble_eq_true rfl) hP hD hS (Nat.le_of_ble_eq_true rfl) (Nat.le_of_ble_eq_true rfl) hp
  · have hp := hp.2
    rcases (show j2 = 0 ∨ j2 = 1 ∨ j2 = 2 ∨ j2 = 3 ∨ j2 = 4 ∨ j2 = 5 ∨ j2 = 6 ∨ j2 = 7 ∨ j2 = 8 by omega) with rfl | rfl | rfl | rfl | rfl | rfl | rfl | rfl | rfl
    · have hp := hp.1 ej2
      refine lv_tableIn (tgt := 52) (off := 51) hx hb dX5_house_1 (by rw [ej2]; decide) (by rw [ej2]; decide) (by rw [ej2]; rfl) (by decide) ?_
      refine lv_aload_n hx hb dX5_house_52 rfl (lv_at hl 0 rfl) ?_
      refine va_get (D := D) (ci := 9) (C := RX5) (T := TX5) (N := 4) hx hb hts hin_X5 hown hK hP 0 rfl rfl 0 (by decide) hf_10 (fun _ h9 => h9) rfl dX5_house_53 ?_
      refine va_get (D := D) (ci := 6) (C := RX2) (T := TX2) (N := 11) hx hb hts hin_X2 hown hK hP 1 rfl rfl 9 (by decide) hf_47 (fun _ h9 => h9) rfl dX5_house_56 ?_
      exact hret ((σ) 1 9) (σ) _ _ _ _ _ _ dX5_house_59 rfl hP hD hS (Nat.le_of_ble_eq_true rfl) (Nat.le_of_ble_eq_true rfl) hp
    · have hp := hp.2.1 ej2
      refine lv_tableIn (tgt := 60) (off := 59) hx hb dX5_house_1 (by rw [ej2]; decide) (by rw [ej2]; decide) (by rw [ej2]; rfl) (by decide) ?_
      refine lv_aload_n hx hb dX5_house_60 rfl (lv_at hl 0 rfl) ?_
      refine va_get (D := D) (ci := 9) (C := RX5) (T := TX5) (N := 4) hx hb hts hin_X5 hown hK hP 0 rfl rfl 0 (by decide) hf_10 (fun _ h9 => h9) rfl dX5_house_61 ?_
      refine va_get (D := D) (ci := 6) (C := RX2) (T := TX2) (N := 11) hx hb hts hin_X2 hown hK hP 1 rfl rfl 10 (by decide) hf_72 (fun _ h9 => h9) rfl dX5_house_64 ?_
      exact hret ((σ) 1 10) (σ) _ _ _ _ _ _ dX5_house_67 rfl hP hD hS (Nat.le_of_ble_eq_true rfl) (Nat.le_of_ble_eq_true rfl) hp
    · have hp := hp.2.2.1 ej2
      refine lv_tableIn (tgt := 68) (off := 67) hx hb dX5_house_1 (by rw [ej2]; decide) (by rw [ej2]; decide) (by rw [ej2]; rfl) (by decide) ?_
      refine lv_aload_n hx hb dX5_house_68 rfl (lv_at hl 0 rfl) ?_
      refine va_get (D := D) (ci := 9) (C := RX5) (T := TX5) (N := 4) hx hb hts hin_X5 hown hK hP 0 rfl rfl 0 (by decide) hf_10 (fun _ h9 => h9) rfl dX5_house_69 ?_
      refine fw_ciV (As := []) (rest := []) hC (c_X2_countingLines l D k ad hp) (cwV 0 hts (gA_V A_295 A_296 A_297 A_29 A_90) rfl rfl rfl (by decide +kernel) ⟨Nat.le_of_ble_eq_true rfl, Nat.le_of_ble_eq_true rfl⟩) (va_recv hK hP (ci := 6) (q0 := 1) rfl rfl) rfl hl.1 rfl (Nat.le_of_ble_eq_true rfl) dX5_house_72 ⟨Nat.le_of_ble_eq_true rfl, Nat.le_of_ble_eq_true rfl⟩ hP hD hS Jn.same (fun r3 σ4 H locs hP hD hS hp => ?_)
      have hP : va_P D vwCl (W5 k ad (σ4)) H := hP
      have hD : va_D A (W5 k ad (σ4)) := hD
      exact hret r3 (σ4) _ _ _ _ _ _ dX5_house_75 rfl hP hD hS (Nat.le_of_ble_eq_true rfl) (Nat.le_of_ble_eq_true rfl) hp
    · have hp := hp.2.2.2.1 ej2
      refine lv_tableIn (tgt := 76) (off := 75) hx hb dX5_house_1 (by rw [ej2]; decide) (by rw [ej2]; decide) (by rw [ej2]; rfl) (by decide) ?_
      refine lv_aload_n hx hb dX5_house_76 rfl (lv_at hl 0 rfl) ?_
      refine va_get (D := D) (ci := 9) (C := RX5) (T := TX5) (N := 4) hx hb hts hin_X5 hown hK hP 0 rfl rfl 1 (by decide) hf_21 (fun _ h9 => h9) rfl dX5_house_77 ?_
      refine va_get (D := D) (ci := 8) (C := RX4) (T := TX4) (N := 7) hx hb hts hin_X4 hown hK hP 11 rfl rfl 1 (by decide) hf_113 (fun _ h9 => h9) rfl dX5_house_80 ?_
      refine va_get (D := D) (ci := 7) (C := RX3) (T := TX3) (N := 3) hx hb hts hin_X3 hown hK hP 12 rfl rfl 2 (by decide) hf_117 (fun _ h9 => h9) rfl dX5_house_83 ?_
      refine lv_if_eq (tgt := 93) hx hb dX5_house_86 (by decide) (fun c5 => ?_) (fun c5 => ?_)
      · have hp := hp.1 c5
        refine lv_iconst (v := 0) hx hb dX5_house_93 (by decide) ?_
        exact B_94 0 (σ) _ _ _  hP hD hS (lv_sub hl [] rfl) hp
      · have hp := hp.2 c5
        refine lv_iconst (v := 1) hx hb dX5_house_89 (by decide) ?_
        refine lv_goto (tgt := 94) hx hb dX5_house_90 (by decide) ?_
        exact B_94 1 (σ) _ _ _  hP hD hS (lv_sub hl [] rfl) hp
    · have hp := hp.2.2.2.2.1 ej2
      refine lv_tableIn (tgt := 95) (off := 94) hx hb dX5_house_1 (by rw [ej2]; decide) (by rw [ej2]; decide) (by rw [ej2]; rfl) (by decide) ?_
      refine lv_aload_n hx hb dX5_house_95 rfl (lv_at hl 0 rfl) ?_
      refine va_get (D := D) (ci := 9) (C := RX5) (T := TX5) (N := 4) hx hb hts hin_X5 hown hK hP 0 rfl rfl 1 (by decide) hf_21 (fun _ h9 => h9) rfl dX5_house_96 ?_
      refine fw_ciV (As := []) (rest := []) hC (c_X4_settledFields l D k ad hp) (cwV 0 hts (gA_V A_298 A_299 A_300 A_173 A_177) rfl rfl rfl (by decide +kernel) ⟨Nat.le_of_ble_eq_true rfl, Nat.le_of_ble_eq_true rfl⟩) (va_recv hK hP (ci := 8) (q0 := 11) rfl rfl) rfl hl.1 rfl (Nat.le_of_ble_eq_true rfl) dX5_house_99 ⟨Nat.le_of_ble_eq_true rfl, Nat.le_of_ble_eq_true rfl⟩ hP hD hS Jn.same (fun r6 σ7 H locs hP hD hS hp => ?_)
      have hP : va_P D vwCl (W5 k ad (σ7)) H := hP
      have hD : va_D A (W5 k ad (σ7)) := hD
      exact hret r6 (σ7) _ _ _ _ _ _ dX5_house_102 rfl hP hD hS (Nat.le_of_ble_eq_true rfl) (Nat.le_of_ble_eq_true rfl) hp
    · have hp := hp.2.2.2.2.2.1 ej2
      refine lv_tableIn (tgt := 103) (off := 102) hx hb dX5_house_1 (by rw [ej2]; decide) (by rw [ej2]; decide) (by rw [ej2]; rfl) (by decide) ?_
      refine lv_aload_n hx hb dX5_house_103 rfl (lv_at hl 0 rfl) ?_
      refine va_get (D := D) (ci := 9) (C := RX5) (T := TX5) (N := 4) hx hb hts hin_X5 hown hK hP 0 rfl rfl 2 (by decide) hf_28 (fun _ h9 => h9) rfl dX5_house_104 ?_
      refine va_get (D := D) (ci := 5) (C := RX1) (T := TX1) (N := 4) hx hb hts hin_X1 hown hK hP 23 rfl rfl 3 (by decide) hf_123 (fun _ h9 => h9) rfl dX5_house_107 ?_
      exact hret ((σ) 23 3) (σ) _ _ _ _ _ _ dX5_house_110 rfl hP hD hS (Nat.le_of_ble_eq_true rfl) (Nat.le_of_ble_eq_true rfl) hp
    · have hp := hp.2.2.2.2.2.2.1 ej2
      refine lv_tableIn (tgt := 111) (off := 110) hx hb dX5_house_1 (by rw [ej2]; decide) (by rw [ej2]; decide) (by rw [ej2]; rfl) (by decide) ?_
      refine lv_aload_n hx hb dX5_house_111 rfl (lv_at hl 0 rfl) ?_
      refine va_get (D := D) (ci := 9) (C := RX5) (T := TX5) (N := 4) hx hb hts hin_X5 hown hK hP 0 rfl rfl 2 (by decide) hf_28 (fun _ h9 => h9) rfl dX5_house_112 ?_
      refine fw_ciV (As := []) (rest := []) hC (c_X1_driftingMachines l D k ad hp) (cwV 0 hts (gA_V A_301 A_302 A_303 A_68 A_73) rfl rfl rfl (by decide +kernel) ⟨Nat.le_of_ble_eq_true rfl, Nat.le_of_ble_eq_true rfl⟩) (va_recv hK hP (ci := 5) (q0 := 23) rfl rfl) rfl hl.1 rfl (Nat.le_of_ble_eq_true rfl) dX5_house_115 ⟨Nat.le_of_ble_eq_true rfl, Nat.le_of_ble_eq_true rfl⟩ hP hD hS Jn.same (fun r8 σ9 H locs hP hD hS hp => ?_)
      have hP : va_P D vwCl (W5 k ad (σ9)) H := hP
      have hD : va_D A (W5 k ad (σ9)) := hD
      exact hret r8 (σ9) _ _ _ _ _ _ dX5_house_118 rfl hP hD hS (Nat.le_of_ble_eq_true rfl) (Nat.le_of_ble_eq_true rfl) hp
    · have hp := hp.2.2.2.2.2.2.2.1 ej2
      refine lv_tableIn (tgt := 119) (off := 118) hx hb dX5_house_1 (by rw [ej2]; decide) (by rw [ej2]; decide) (by rw [ej2]; rfl) (by decide) ?_
      refine lv_aload_n hx hb dX5_house_119 rfl (lv_at hl 0 rfl) ?_
      refine va_get (D := D) (ci := 9) (C := RX5) (T := TX5) (N := 4) hx hb hts hin_X5 hown hK hP 0 rfl rfl 1 (by decide) hf_21 (fun _ h9 => h9) rfl dX5_house_120 ?_
      refine va_get (D := D) (ci := 8) (C := RX4) (T := TX4) (N := 7) hx hb hts hin_X4 hown hK hP 11 rfl rfl 4 (by decide) hf_176 (fun _ h9 => h9) rfl dX5_house_123 ?_
      refine va_get (D := D) (ci := 4) (C := RX0) (T := TX0) (N := 7) hx hb hts hin_X0 hown hK hP 18 rfl rfl 4 (by decide) hf_233 (fun _ h9 => h9) rfl dX5_house_126 ?_
      exact hret ((σ) 18 4) (σ) _ _ _ _ _ _ dX5_house_129 rfl hP hD hS (Nat.le_of_ble_eq_true rfl) (Nat.le_of_ble_eq_true rfl) hp
    · have hp := hp.2.2.2.2.2.2.2.2 ej2
      refine lv_tableIn (tgt := 130) (off := 129) hx hb dX5_house_1 (by rw [ej2]; decide) (by rw [ej2]; decide) (by rw [ej2]; rfl) (by decide) ?_
      refine lv_aload_n hx hb dX5_house_130 rfl (lv_at hl 0 rfl) ?_
      refine va_get (D := D) (ci := 9) (C := RX5) (T := TX5) (N := 4) hx hb hts hin_X5 hown hK hP 0 rfl rfl 3 (by decide) hf_32 (fun _ h9 => h9) rfl dX5_house_131 ?_
      exact hret ((σ) 0 3) (σ) _ _ _ _ _ _ dX5_house_134 rfl hP hD hS (Nat.le_of_ble_eq_true rfl) (Nat.le_of_ble_eq_true rfl) hp
def q_X5_reason_23  (post : Int32 → Mem → Prop) (px : String → Mem → Prop)  (x1 : Int32) (σ : Mem) : Prop := (q_X4_reasonOf (fun (r1001 : Int32) (σ1002 : Mem) => post r1001 (σ1002)) x1 (σ))
def q_X5_reason  (post : Int32 → Mem → Prop) (px : String → Mem → Prop) (p1 : Int32) (σ : Mem) : Prop := ((p1 = (-1) → (q_X5_reason_23 post px) p1 (σ)) ∧ (¬ (p1 = (-1)) → (q_X5_isField (fun (r2 : Int32) (σ3 : Mem) => ((r2 ≠ 0 → (q_X5_reason_23 post px) p1 (σ3)) ∧ (r2 = 0 → (px "java/lang/IndexOutOfBoundsException" (σ3))))) p1 (σ))))
abbrev rm_X5_reason : Room := { frames := 6, cells := 1, slots := 6, locals := 200 }
abbrev wq_X5_reason : List Cond := Cond.code yX5_reason cX5_reason 2 (some .int) :: wALL
set_option maxHeartbeats 4000000 in
set_option maxRecDepth 100000 in
theorem c_X5_reason (l : Launch) (hflag : l.stackTraces = false) (D : va_G) (k ad : Nat → Nat) {sz : Nat} {σ : Mem} {p1 : Int32} {post : Int32 → Mem → Prop} {px : String → Mem → Prop} (hp : q_X5_reason post px p1 σ) : vx_Met l yX5_reason wq_X5_reason rm_X5_reason (va_Pc [.ref (ad 0), .int p1] (Pw D k (W5 k ad (σ)) sz)) (va_Qi post (fun u => Bw D (W5 k ad (σ)) sz (W5 k ad u)) (va_A (W5 k ad (σ)) sz)) (vx_X (fun z : String × Mem => px z.1 z.2) (fun E z t => E = z.1 ∧ Bw D (W5 k ad (σ)) sz (W5 k ad z.2) t) (va_A (W5 k ad (σ)) sz)) 1 6 (va_A (W5 k ad (σ)) sz) := by
  refine fw_xi hflag (wf := fun u : Mem => W5 k ad u) (by decide) rfl (Nat.le_of_ble_eq_true rfl) ?_
  intro p e s m args below meth c A Q ls hC hP hD hl hret hthr
  obtain ⟨⟨hx, hb, hml, hown, hts⟩, hG, hA⟩ := id hC
  have hK := hG.1
  have hS : va_S A s.heap s.heap [] := va_S.rf
  have hin_X5 : ∀ w ∈ u_ws RX5 TX5 4, w ∈ wq_X5_reason := fun w h => List.mem_cons_of_mem _ (iU_X5 w h)
  have hf_21 := hts _ (List.mem_cons_of_mem _ A_186)
  have hl : lv_has ls 2 [(0, .ref (ad 0)), (1, .int p1)] := hl
  have hown : s.vm.findClass RX5 = some m.cls := hown
  unfold q_X5_reason at hp
  have B_23 : ∀ (x1 : Int32) (σ : Mem) (H : Heap) (locs : List Loc) (ls : Array Slot), va_P D vwCl (W5 k ad (σ)) H → va_D A (W5 k ad (σ)) → va_S A s.heap H locs → lv_has ls 2 [(0, .ref (ad 0)), (1, .int x1)] → (q_X5_reason_23 post px) x1 σ → W p l e rm_X5_reason s m args below meth c H locs 0 0 Q (F0 m 23 ls []) := by
    intro x1 σ H locs ls hP hD hS hl hp
    unfold q_X5_reason_23 at hp
    refine lv_aload_n hx hb dX5_reason_23 rfl (lv_at hl 0 rfl) ?_
    refine va_get (D := D) (ci := 9) (C := RX5) (T := TX5) (N := 4) hx hb hts hin_X5 hown hK hP 0 rfl rfl 1 (by decide) hf_21 (fun _ h9 => h9) rfl dX5_reason_24 ?_
    refine lv_iload_n hx hb dX5_reason_27 rfl (lv_at hl 1 rfl) ?_
    refine fw_ciV (As := [.int x1]) (rest := []) hC (c_X4_reasonOf l D k ad hp) (cwV 1 hts (gA_V A_284 A_285 A_286 A_173 A_179) rfl rfl rfl (by decide +kernel) ⟨Nat.le_of_ble_eq_true rfl, Nat.le_of_ble_eq_true rfl⟩) (va_recv hK hP (ci := 8) (q0 := 11) rfl rfl) rfl hl.1 rfl (Nat.le_of_ble_eq_true rfl) dX5_reason_28 ⟨Nat.le_of_ble_eq_true rfl, Nat.le_of_ble_eq_true rfl⟩ hP hD hS Jn.same (fun r10001 σ10002 H locs hP hD hS hp => ?_)
    have hP : va_P D vwCl (W5 k ad (σ10002)) H := hP
    have hD : va_D A (W5 k ad (σ10002)) := hD
    exact hret r10001 (σ10002) _ _ _ _ _ _ dX5_reason_31 rfl hP hD hS (Nat.le_of_ble_eq_true rfl) (Nat.le_of_ble_eq_true rfl) hp
  refine lv_iload_n hx hb dX5_reason_0 rfl (lv_at hl 1 rfl) ?_
  refine lv_iconst (v := (-1)) hx hb dX5_reason_1 (by decide) ?_
  refine lv_icmp_eq (tgt := 23) hx hb dX5_reason_2 (by decide) (fun c1 => ?_) (fun c1 => ?_)
  · have hp := hp.1 c1
    exact B_23 p1 (σ) _ _ _  hP hD hS (lv_sub hl [0, 1] rfl) hp
  · have hp := hp.2 c1
    refine lv_aload_n hx hb dX5_reason_5 rfl (lv_at hl 0 rfl) ?_
    refine lv_iload_n hx hb dX5_reason_6 rfl (lv_at hl 1 rfl) ?_
    refine fw_ciV (As := [.int p1]) (rest := []) hC (c_X5_isField l D k ad hp) (cwV 1 hts (gA_V A_220 A_221 A_222 A_25 A_212) rfl rfl rfl (by decide +kernel) ⟨Nat.le_of_ble_eq_true rfl, Nat.le_of_ble_eq_true rfl⟩) (va_recv hK hP (ci := 9) (q0 := 0) rfl rfl) rfl hl.1 rfl (Nat.le_of_ble_eq_true rfl) dX5_reason_7 ⟨Nat.le_of_ble_eq_true rfl, Nat.le_of_ble_eq_true rfl⟩ hP hD hS Jn.same (fun r2 σ3 H locs hP hD hS hp => ?_)
    have hP : va_P D vwCl (W5 k ad (σ3)) H := hP
    have hD : va_D A (W5 k ad (σ3)) := hD
    refine lv_if_ne (tgt := 23) hx hb dX5_reason_10 (by decide) (fun c4 => ?_) (fun c4 => ?_)
    · have hp := hp.1 c4
      exact B_23 p1 (σ3) _ _ _  hP hD hS (lv_sub hl [0, 1] rfl) hp
    · have hp := hp.2 c4
      exact hthr "java/lang/IndexOutOfBoundsException" "no such field" ["java/lang/RuntimeException", "java/lang/Exception"] 65 67 69 (k (1000 + 67)) (σ3) _ _ _ _ _ _ _ (by decide +kernel) (by decide +kernel) (hts _ (List.mem_cons_of_mem _ A_217)) (hts _ (List.mem_cons_of_mem _ A_218)) (GG.sx hG 15 rfl) (hat_69 (fun w h => hts w (List.mem_cons_of_mem _ h)) (GG.nc hG (q := ("java/lang/IndexOutOfBoundsException", "java/lang/IndexOutOfBoundsException")) 6 rfl) (GG.nd hG)) vO_69 hl.1 dX5_reason_13 dX5_reason_16 dX5_reason_17 dX5_reason_19 dX5_reason_22 (Nat.le_of_ble_eq_true rfl) (Nat.le_of_ble_eq_true rfl) (Nat.le_of_ble_eq_true rfl) (Nat.le_of_ble_eq_true rfl) hP hD hS (Nat.le_of_ble_eq_true rfl) (Nat.le_of_ble_eq_true rfl) hp
def q_X5_met_34  (post : Int32 → Mem → Prop) (px : String → Mem → Prop)  (σ : Mem) : Prop := (px "java/lang/IllegalArgumentException" (σ))
def q_X5_met  (post : Int32 → Mem → Prop) (px : String → Mem → Prop) (p1 : Int32) (p2 : Int32) (σ : Mem) : Prop := (q_X5_isField (fun (r1 : Int32) (σ2 : Mem) => ((r1 ≠ 0 → ((p1 < 0 → (q_X5_met_34 post px) (σ2)) ∧ (¬ (p1 < 0) → (((p1 >>> (((σ2) 1 10) &&& 31)) = 0 → (q_X3_begin 14 15 (fun (σ7 : Mem) => (vp_in p2 5 ∧ post ((σ7) 15 p2.toNatClampNeg) (σ7))) p1 (σ2))) ∧ (¬ ((p1 >>> (((σ2) 1 10) &&& 31)) = 0) → (q_X5_met_34 post px) (σ2)))))) ∧ (r1 = 0 → (px "java/lang/IndexOutOfBoundsException" (σ2))))) p2 (σ))
abbrev rm_X5_met : Room := { frames := 6, cells := 1, slots := 6, locals := 200 }
abbrev wq_X5_met : List Cond := Cond.code yX5_met cX5_met 3 (some .int) :: wALL
set_option maxHeartbeats 4000000 in
set_option maxRecDepth 100000 in
theorem c_X5_met (l : Launch) (hflag : l.stackTraces = false) (D : va_G) (k ad : Nat → Nat) {sz : Nat} {σ : Mem} {p1 : Int32} {p2 : Int32} {post : Int32 → Mem → Prop} {px : String → Mem → Prop} (hp : q_X5_met post px p1 p2 σ) : vx_Met l yX5_met wq_X5_met rm_X5_met (va_Pc [.ref (ad 0), .int p1, .int p2] (Pw D k (W5 k ad (σ)) sz)) (va_Qi post (fun u => Bw D (W5 k ad (σ)) sz (W5 k ad u)) (va_A (W5 k ad (σ)) sz)) (vx_X (fun z : String × Mem => px z.1 z.2) (fun E z t => E = z.1 ∧ Bw D (W5 k ad (σ)) sz (W5 k ad z.2) t) (va_A (W5 k ad (σ)) sz)) 1 6 (va_A (W5 k ad (σ)) sz) := by
  refine fw_xi hflag (wf := fun u : Mem => W5 k ad u) (by decide) rfl (Nat.le_of_ble_eq_true rfl) ?_
  intro p e s m args below meth c A Q ls hC hP hD hl hret hthr
  obtain ⟨⟨hx, hb, hml, hown, hts⟩, hG, hA⟩ := id hC
  have hK := hG.1
  have hS : va_S A s.heap s.heap [] := va_S.rf
  have hin_X5 : ∀ w ∈ u_ws RX5 TX5 4, w ∈ wq_X5_met := fun w h => List.mem_cons_of_mem _ (iU_X5 w h)
  have hf_10 := hts _ (List.mem_cons_of_mem _ A_183)
  have hin_X2 : ∀ w ∈ u_ws RX2 TX2 11, w ∈ wq_X5_met := fun w h => List.mem_cons_of_mem _ (iU_X2 w h)
  have hf_72 := hts _ (List.mem_cons_of_mem _ A_219)
  have hf_21 := hts _ (List.mem_cons_of_mem _ A_186)
  have hin_X4 : ∀ w ∈ u_ws RX4 TX4 7, w ∈ wq_X5_met := fun w h => List.mem_cons_of_mem _ (iU_X4 w h)
  have hf_254 := hts _ (List.mem_cons_of_mem _ A_517)
  have hin_X3 : ∀ w ∈ u_ws RX3 TX3 3, w ∈ wq_X5_met := fun w h => List.mem_cons_of_mem _ (iU_X3 w h)
  have hf_168 := hts _ (List.mem_cons_of_mem _ A_271)
  have hl : lv_has ls 3 [(0, .ref (ad 0)), (1, .int p1), (2, .int p2)] := hl
  have hown : s.vm.findClass RX5 = some m.cls := hown
  unfold q_X5_met at hp
  have B_34 : ∀  (σ : Mem) (H : Heap) (locs : List Loc) (ls : Array Slot), va_P D vwCl (W5 k ad (σ)) H → va_D A (W5 k ad (σ)) → va_S A s.heap H locs → lv_has ls 3 [] → (q_X5_met_34 post px)  σ → W p l e rm_X5_met s m args below meth c H locs 0 0 Q (F0 m 34 ls []) := by
    intro  σ H locs ls hP hD hS hl hp
    unfold q_X5_met_34 at hp
    exact hthr "java/lang/IllegalArgumentException" "lines is no set of lines that there are" ["java/lang/RuntimeException", "java/lang/Exception"] 40 252 44 (k (1000 + 252)) (σ) _ _ _ _ _ _ _ (by decide +kernel) (by decide +kernel) (hts _ (List.mem_cons_of_mem _ A_198)) (hts _ (List.mem_cons_of_mem _ A_199)) (GG.sx hG 12 rfl) (hat_44 (fun w h => hts w (List.mem_cons_of_mem _ h)) (GG.nc hG (q := ("java/lang/IllegalArgumentException", "java/lang/IllegalArgumentException")) 4 rfl) (GG.nd hG)) vO_44 hl.1 dX5_met_34 dX5_met_37 dX5_met_38 dX5_met_40 dX5_met_43 (Nat.le_of_ble_eq_true rfl) (Nat.le_of_ble_eq_true rfl) (Nat.le_of_ble_eq_true rfl) (Nat.le_of_ble_eq_true rfl) hP hD hS (Nat.le_of_ble_eq_true rfl) (Nat.le_of_ble_eq_true rfl) hp
  refine lv_aload_n hx hb dX5_met_0 rfl (lv_at hl 0 rfl) ?_
  refine lv_iload_n hx hb dX5_met_1 rfl (lv_at hl 2 rfl) ?_
  refine fw_ciV (As := [.int p2]) (rest := []) hC (c_X5_isField l D k ad hp) (cwV 1 hts (gA_V A_220 A_221 A_222 A_25 A_212) rfl rfl rfl (by decide +kernel) ⟨Nat.le_of_ble_eq_true rfl, Nat.le_of_ble_eq_true rfl⟩) (va_recv hK hP (ci := 9) (q0 := 0) rfl rfl) rfl hl.1 rfl (Nat.le_of_ble_eq_true rfl) dX5_met_2 ⟨Nat.le_of_ble_eq_true rfl, Nat.le_of_ble_eq_true rfl⟩ hP hD hS Jn.same (fun r1 σ2 H locs hP hD hS hp => ?_)
  have hP : va_P D vwCl (W5 k ad (σ2)) H := hP
  have hD : va_D A (W5 k ad (σ2)) := hD
  refine lv_if_ne (tgt := 18) hx hb dX5_met_5 (by decide) (fun c3 => ?_) (fun c3 => ?_)
  · have hp := hp.1 c3
    refine lv_iload_n hx hb dX5_met_18 rfl (lv_at hl 1 rfl) ?_
    refine lv_if_lt (tgt := 34) hx hb dX5_met_19 (by decide) (fun c4 => ?_) (fun c4 => ?_)
    · have hp := hp.1 c4
      exact B_34  (σ2) _ _ _  hP hD hS (lv_sub hl [] rfl) hp
    · have hp := hp.2 c4
      refine lv_iload_n hx hb dX5_met_22 rfl (lv_at hl 1 rfl) ?_
      refine lv_aload_n hx hb dX5_met_23 rfl (lv_at hl 0 rfl) ?_
      refine va_get (D := D) (ci := 9) (C := RX5) (T := TX5) (N := 4) hx hb hts hin_X5 hown hK hP 0 rfl rfl 0 (by decide) hf_10 (fun _ h9 => h9) rfl dX5_met_24 ?_
      refine va_get (D := D) (ci := 6) (C := RX2) (T := TX2) (N := 11) hx hb hts hin_X2 hown hK hP 1 rfl rfl 10 (by decide) hf_72 (fun _ h9 => h9) rfl dX5_met_27 ?_
      refine lv_ishr hx hb dX5_met_30 ?_
      refine lv_if_eq (tgt := 44) hx hb dX5_met_31 (by decide) (fun c5 => ?_) (fun c5 => ?_)
      · have hp := hp.1 c5
        refine lv_aload_n hx hb dX5_met_44 rfl (lv_at hl 0 rfl) ?_
        refine va_get (D := D) (ci := 9) (C := RX5) (T := TX5) (N := 4) hx hb hts hin_X5 hown hK hP 0 rfl rfl 1 (by decide) hf_21 (fun _ h9 => h9) rfl dX5_met_45 ?_
        refine va_get (D := D) (ci := 8) (C := RX4) (T := TX4) (N := 7) hx hb hts hin_X4 hown hK hP 11 rfl rfl 2 (by decide) hf_254 (fun _ h9 => h9) rfl dX5_met_48 ?_
        refine lv_iload_n hx hb dX5_met_51 rfl (lv_at hl 1 rfl) ?_
        refine fw_cvV (As := [.int p1]) (rest := []) hC (c_X3_begin_14 l D k ad hp) (cwV 1 hts (gA_V A_518 A_165 A_166 A_115 A_121) rfl rfl rfl (by decide +kernel) ⟨Nat.le_of_ble_eq_true rfl, Nat.le_of_ble_eq_true rfl⟩) (va_recv hK hP (ci := 7) (q0 := 14) rfl rfl) rfl hl.1 rfl (Nat.le_of_ble_eq_true rfl) dX5_met_52 ⟨Nat.le_of_ble_eq_true rfl, Nat.le_of_ble_eq_true rfl⟩ hP hD hS Jn.same (fun σ7 H locs hP hD hS hp => ?_)
        have hP : va_P D vwCl (W5 k ad (σ7)) H := hP
        have hD : va_D A (W5 k ad (σ7)) := hD
        refine lv_aload_n hx hb dX5_met_55 rfl (lv_at hl 0 rfl) ?_
        refine va_get (D := D) (ci := 9) (C := RX5) (T := TX5) (N := 4) hx hb hts hin_X5 hown hK hP 0 rfl rfl 1 (by decide) hf_21 (fun _ h9 => h9) rfl dX5_met_56 ?_
        refine va_get (D := D) (ci := 8) (C := RX4) (T := TX4) (N := 7) hx hb hts hin_X4 hown hK hP 11 rfl rfl 2 (by decide) hf_254 (fun _ h9 => h9) rfl dX5_met_59 ?_
        refine va_get (D := D) (ci := 7) (C := RX3) (T := TX3) (N := 3) hx hb hts hin_X3 hown hK hP 14 rfl rfl 1 (by decide) hf_168 (fun _ h9 => h9) rfl dX5_met_62 ?_
        refine lv_iload_n hx hb dX5_met_65 rfl (lv_at hl 2 rfl) ?_
        obtain ⟨h8, hp⟩ := hp
        refine va_iald hx hb hK hP 15 0 rfl rfl h8 dX5_met_66 ?_
        exact hret ((σ7) 15 p2.toNatClampNeg) (σ7) _ _ _ _ _ _ dX5_met_67 rfl hP hD hS (Nat.le_of_ble_eq_true rfl) (Nat.le_of_ble_eq_true rfl) hp
      · have hp := hp.2 c5
        exact B_34  (σ2) _ _ _  hP hD hS (lv_sub hl [] rfl) hp
  · have hp := hp.2 c3
    exact hthr "java/lang/IndexOutOfBoundsException" "no such field" ["java/lang/RuntimeException", "java/lang/Exception"] 65 67 69 (k (1000 + 67)) (σ2) _ _ _ _ _ _ _ (by decide +kernel) (by decide +kernel) (hts _ (List.mem_cons_of_mem _ A_217)) (hts _ (List.mem_cons_of_mem _ A_218)) (GG.sx hG 15 rfl) (hat_69 (fun w h => hts w (List.mem_cons_of_mem _ h)) (GG.nc hG (q := ("java/lang/IndexOutOfBoundsException", "java/lang/IndexOutOfBoundsException")) 6 rfl) (GG.nd hG)) vO_69 hl.1 dX5_met_8 dX5_met_11 dX5_met_12 dX5_met_14 dX5_met_17 (Nat.le_of_ble_eq_true rfl) (Nat.le_of_ble_eq_true rfl) (Nat.le_of_ble_eq_true rfl) (Nat.le_of_ble_eq_true rfl) hP hD hS (Nat.le_of_ble_eq_true rfl) (Nat.le_of_ble_eq_true rfl) hp
def q_X5_choices  (post : Int32 → Mem → Prop) (px : String → Mem → Prop) (p1 : Int32) (p2 : Int32) (σ : Mem) : Prop := (q_X5_isField (fun (r1 : Int32) (σ2 : Mem) => ((r1 ≠ 0 → (q_X5_isNumber (fun (r4 : Int32) (σ5 : Mem) => ((r4 ≠ 0 → (q_X0_count (fun (r7 : Int32) (σ8 : Mem) => post r7 (σ8)) p1 p2 (σ2))) ∧ (r4 = 0 → (px "java/lang/IllegalArgumentException" (σ2))))) p2 (σ2))) ∧ (r1 = 0 → (px "java/lang/IndexOutOfBoundsException" (σ2))))) p1 (σ))
abbrev rm_X5_choices : Room := { frames := 18, cells := 1, slots := 6, locals := 886 }
abbrev wq_X5_choices : List Cond := Cond.code yX5_choices cX5_choices 3 (some .int) :: wALL
set_option maxHeartbeats 4000000 in
set_option maxRecDepth 100000 in
theorem c_X5_choices (l : Launch) (hflag : l.stackTraces = false) (D : va_G) (k ad : Nat → Nat) {sz : Nat} {σ : Mem} {p1 : Int32} {p2 : Int32} {post : Int32 → Mem → Prop} {px : String → Mem → Prop} (hp : q_X5_choices post px p1 p2 σ) : vx_Met l yX5_choices wq_X5_choices rm_X5_choices (va_Pc [.ref (ad 0), .int p1, .int p2] (Pw D k (W5 k ad (σ)) sz)) (va_Qi post (fun u => Bw D (W5 k ad (σ)) sz (W5 k ad u)) (va_A (W5 k ad (σ)) sz)) (vx_X (fun z : String × Mem => px z.1 z.2) (fun E z t => E = z.1 ∧ Bw D (W5 k ad (σ)) sz (W5 k ad z.2) t) (va_A (W5 k ad (σ)) sz)) 1 6 (va_A (W5 k ad (σ)) sz) := by
  refine fw_xi hflag (wf := fun u : Mem => W5 k ad u) (by decide) rfl (Nat.le_of_ble_eq_true rfl) ?_
  intro p e s m args below meth c A Q ls hC hP hD hl hret hthr
  obtain ⟨⟨hx, hb, hml, hown, hts⟩, hG, hA⟩ := id hC
  have hK := hG.1
  have hS : va_S A s.heap s.heap [] := va_S.rf
  have hin_X5 : ∀ w ∈ u_ws RX5 TX5 4, w ∈ wq_X5_choices := fun w h => List.mem_cons_of_mem _ (iU_X5 w h)
  have hf_21 := hts _ (List.mem_cons_of_mem _ A_186)
  have hin_X4 : ∀ w ∈ u_ws RX4 TX4 7, w ∈ wq_X5_choices := fun w h => List.mem_cons_of_mem _ (iU_X4 w h)
  have hf_176 := hts _ (List.mem_cons_of_mem _ A_272)
  have hf_113 := hts _ (List.mem_cons_of_mem _ A_246)
  have hl : lv_has ls 3 [(0, .ref (ad 0)), (1, .int p1), (2, .int p2)] := hl
  have hown : s.vm.findClass RX5 = some m.cls := hown
  unfold q_X5_choices at hp
  refine lv_aload_n hx hb dX5_choices_0 rfl (lv_at hl 0 rfl) ?_
  refine lv_iload_n hx hb dX5_choices_1 rfl (lv_at hl 1 rfl) ?_
  refine fw_ciV (As := [.int p1]) (rest := []) hC (c_X5_isField l D k ad hp) (cwV 1 hts (gA_V A_220 A_221 A_222 A_25 A_212) rfl rfl rfl (by decide +kernel) ⟨Nat.le_of_ble_eq_true rfl, Nat.le_of_ble_eq_true rfl⟩) (va_recv hK hP (ci := 9) (q0 := 0) rfl rfl) rfl hl.1 rfl (Nat.le_of_ble_eq_true rfl) dX5_choices_2 ⟨Nat.le_of_ble_eq_true rfl, Nat.le_of_ble_eq_true rfl⟩ hP hD hS Jn.same (fun r1 σ2 H locs hP hD hS hp => ?_)
  have hP : va_P D vwCl (W5 k ad (σ2)) H := hP
  have hD : va_D A (W5 k ad (σ2)) := hD
  refine lv_if_ne (tgt := 18) hx hb dX5_choices_5 (by decide) (fun c3 => ?_) (fun c3 => ?_)
  · have hp := hp.1 c3
    refine lv_iload_n hx hb dX5_choices_18 rfl (lv_at hl 2 rfl) ?_
    refine fw_ciS (As := [.int p2]) (rest := []) hC (c_X5_isNumber l D k hp) (va_cwS 1 hts (gA_S A_228 A_229 A_25 A_227) rfl rfl rfl (by decide +kernel) ⟨Nat.le_of_ble_eq_true rfl, Nat.le_of_ble_eq_true rfl⟩) rfl hl.1 rfl (Nat.le_of_ble_eq_true rfl) dX5_choices_19 ⟨Nat.le_of_ble_eq_true rfl, Nat.le_of_ble_eq_true rfl⟩ P_nil D_nil hS (Jn.pure (w0 := fun _ : Mem => []) hP hD) (fun r4 σ5 H locs hP hD hS hp => ?_)
    have hP : va_P D vwCl (W5 k ad (σ2)) H := hP
    have hD : va_D A (W5 k ad (σ2)) := hD
    refine lv_if_ne (tgt := 35) hx hb dX5_choices_22 (by decide) (fun c6 => ?_) (fun c6 => ?_)
    · have hp := hp.1 c6
      refine lv_aload_n hx hb dX5_choices_35 rfl (lv_at hl 0 rfl) ?_
      refine va_get (D := D) (ci := 9) (C := RX5) (T := TX5) (N := 4) hx hb hts hin_X5 hown hK hP 0 rfl rfl 1 (by decide) hf_21 (fun _ h9 => h9) rfl dX5_choices_36 ?_
      refine va_get (D := D) (ci := 8) (C := RX4) (T := TX4) (N := 7) hx hb hts hin_X4 hown hK hP 11 rfl rfl 4 (by decide) hf_176 (fun _ h9 => h9) rfl dX5_choices_39 ?_
      refine lv_aload_n hx hb dX5_choices_42 rfl (lv_at hl 0 rfl) ?_
      refine va_get (D := D) (ci := 9) (C := RX5) (T := TX5) (N := 4) hx hb hts hin_X5 hown hK hP 0 rfl rfl 1 (by decide) hf_21 (fun _ h9 => h9) rfl dX5_choices_43 ?_
      refine va_get (D := D) (ci := 8) (C := RX4) (T := TX4) (N := 7) hx hb hts hin_X4 hown hK hP 11 rfl rfl 1 (by decide) hf_113 (fun _ h9 => h9) rfl dX5_choices_46 ?_
      refine lv_iload_n hx hb dX5_choices_49 rfl (lv_at hl 1 rfl) ?_
      refine lv_iload_n hx hb dX5_choices_50 rfl (lv_at hl 2 rfl) ?_
      refine fw_ciV (As := [.ref (ad 12), .int p1, .int p2]) (rest := []) hC (c_X0_count l D k ad hp) (cwV 3 hts (gA_V A_520 A_521 A_522 A_42 A_52) rfl rfl rfl (by decide +kernel) ⟨Nat.le_of_ble_eq_true rfl, Nat.le_of_ble_eq_true rfl⟩) (va_recv hK hP (ci := 4) (q0 := 18) rfl rfl) rfl hl.1 rfl (Nat.le_of_ble_eq_true rfl) dX5_choices_51 ⟨Nat.le_of_ble_eq_true rfl, Nat.le_of_ble_eq_true rfl⟩ hP hD hS Jn.same (fun r7 σ8 H locs hP hD hS hp => ?_)
      have hP : va_P D vwCl (W5 k ad (σ8)) H := hP
      have hD : va_D A (W5 k ad (σ8)) := hD
      exact hret r7 (σ8) _ _ _ _ _ _ dX5_choices_54 rfl hP hD hS (Nat.le_of_ble_eq_true rfl) (Nat.le_of_ble_eq_true rfl) hp
    · have hp := hp.2 c6
      exact hthr "java/lang/IllegalArgumentException" "number is not 0 to 7" ["java/lang/RuntimeException", "java/lang/Exception"] 40 154 44 (k (1000 + 154)) (σ2) _ _ _ _ _ _ _ (by decide +kernel) (by decide +kernel) (hts _ (List.mem_cons_of_mem _ A_198)) (hts _ (List.mem_cons_of_mem _ A_199)) (GG.sx hG 5 rfl) (hat_44 (fun w h => hts w (List.mem_cons_of_mem _ h)) (GG.nc hG (q := ("java/lang/IllegalArgumentException", "java/lang/IllegalArgumentException")) 4 rfl) (GG.nd hG)) vO_44 hl.1 dX5_choices_25 dX5_choices_28 dX5_choices_29 dX5_choices_31 dX5_choices_34 (Nat.le_of_ble_eq_true rfl) (Nat.le_of_ble_eq_true rfl) (Nat.le_of_ble_eq_true rfl) (Nat.le_of_ble_eq_true rfl) hP hD hS (Nat.le_of_ble_eq_true rfl) (Nat.le_of_ble_eq_true rfl) hp
  · have hp := hp.2 c3
    exact hthr "java/lang/IndexOutOfBoundsException" "no such field" ["java/lang/RuntimeException", "java/lang/Exception"] 65 67 69 (k (1000 + 67)) (σ2) _ _ _ _ _ _ _ (by decide +kernel) (by decide +kernel) (hts _ (List.mem_cons_of_mem _ A_217)) (hts _ (List.mem_cons_of_mem _ A_218)) (GG.sx hG 15 rfl) (hat_69 (fun w h => hts w (List.mem_cons_of_mem _ h)) (GG.nc hG (q := ("java/lang/IndexOutOfBoundsException", "java/lang/IndexOutOfBoundsException")) 6 rfl) (GG.nd hG)) vO_69 hl.1 dX5_choices_8 dX5_choices_11 dX5_choices_12 dX5_choices_14 dX5_choices_17 (Nat.le_of_ble_eq_true rfl) (Nat.le_of_ble_eq_true rfl) (Nat.le_of_ble_eq_true rfl) (Nat.le_of_ble_eq_true rfl) hP hD hS (Nat.le_of_ble_eq_true rfl) (Nat.le_of_ble_eq_true rfl) hp
def q_X5_isNarrower_61  (post : Int32 → Mem → Prop) (px : String → Mem → Prop)  (s0 : Int32) (σ : Mem) : Prop := (bz s0 ∧ post s0 (σ))
def q_X5_isNarrower_16  (post : Int32 → Mem → Prop) (px : String → Mem → Prop)  (σ : Mem) : Prop := (px "java/lang/IndexOutOfBoundsException" (σ))
def q_X5_isNarrower  (post : Int32 → Mem → Prop) (px : String → Mem → Prop) (p1 : Int32) (p2 : Int32) (σ : Mem) : Prop := (q_X5_isField (fun (r1 : Int32) (σ2 : Mem) => ((r1 = 0 → (q_X5_isNarrower_16 post px) (σ2)) ∧ (¬ (r1 = 0) → (q_X5_isField (fun (r4 : Int32) (σ5 : Mem) => ((r4 ≠ 0 → (vp_in p1 5 ∧ (vp_in p2 5 ∧ (((((σ5) 13 p1.toNatClampNeg) &&& (((σ5) 13 p2.toNatClampNeg) ^^^ (-1))) ≠ 0 → (q_X5_isNarrower_61 post px) 0 (σ5)) ∧ ((((σ5) 13 p1.toNatClampNeg) &&& (((σ5) 13 p2.toNatClampNeg) ^^^ (-1))) = 0 → (q_X5_isNarrower_61 post px) 1 (σ5)))))) ∧ (r4 = 0 → (q_X5_isNarrower_16 post px) (σ5)))) p2 (σ2))))) p1 (σ))
abbrev rm_X5_isNarrower : Room := { frames := 6, cells := 1, slots := 6, locals := 200 }
abbrev wq_X5_isNarrower : List Cond := Cond.code yX5_isNarrower cX5_isNarrower 3 (some .boolean) :: wALL
set_option maxHeartbeats 4000000 in
set_option maxRecDepth 100000 in
theorem c_X5_isNarrower (l : Launch) (hflag : l.stackTraces = false) (D : va_G) (k ad : Nat → Nat) {sz : Nat} {σ : Mem} {p1 : Int32} {p2 : Int32} {post : Int32 → Mem → Prop} {px : String → Mem → Prop} (hp : q_X5_isNarrower post px p1 p2 σ) : vx_Met l yX5_isNarrower wq_X5_isNarrower rm_X5_isNarrower (va_Pc [.ref (ad 0), .int p1, .int p2] (Pw D k (W5 k ad (σ)) sz)) (va_Qi post (fun u => Bw D (W5 k ad (σ)) sz (W5 k ad u)) (va_A (W5 k ad (σ)) sz)) (vx_X (fun z : String × Mem => px z.1 z.2) (fun E z t => E = z.1 ∧ Bw D (W5 k ad (σ)) sz (W5 k ad z.2) t) (va_A (W5 k ad (σ)) sz)) 1 6 (va_A (W5 k ad (σ)) sz) := by
  refine fw_xi hflag (wf := fun u : Mem => W5 k ad u) (by decide) rfl (Nat.le_of_ble_eq_true rfl) ?_
  intro p e s m args below meth c A Q ls hC hP hD hl hret hthr
  obtain ⟨⟨hx, hb, hml, hown, hts⟩, hG, hA⟩ := id hC
  have hK := hG.1
  have hS : va_S A s.heap s.heap [] := va_S.rf
  have hin_X5 : ∀ w ∈ u_ws RX5 TX5 4, w ∈ wq_X5_isNarrower := fun w h => List.mem_cons_of_mem _ (iU_X5 w h)
  have hf_21 := hts _ (List.mem_cons_of_mem _ A_186)
  have hin_X4 : ∀ w ∈ u_ws RX4 TX4 7, w ∈ wq_X5_isNarrower := fun w h => List.mem_cons_of_mem _ (iU_X4 w h)
  have hf_113 := hts _ (List.mem_cons_of_mem _ A_246)
  have hin_X3 : ∀ w ∈ u_ws RX3 TX3 3, w ∈ wq_X5_isNarrower := fun w h => List.mem_cons_of_mem _ (iU_X3 w h)
  have hf_168 := hts _ (List.mem_cons_of_mem _ A_271)
  have hl : lv_has ls 3 [(0, .ref (ad 0)), (1, .int p1), (2, .int p2)] := hl
  have hown : s.vm.findClass RX5 = some m.cls := hown
  unfold q_X5_isNarrower at hp
  have B_61 : ∀ (s0 : Int32) (σ : Mem) (H : Heap) (locs : List Loc) (ls : Array Slot), va_P D vwCl (W5 k ad (σ)) H → va_D A (W5 k ad (σ)) → va_S A s.heap H locs → lv_has ls 3 [] → (q_X5_isNarrower_61 post px) s0 σ → W p l e rm_X5_isNarrower s m args below meth c H locs 0 0 Q (F0 m 61 ls [.int s0]) := by
    intro s0 σ H locs ls hP hD hS hl hp
    unfold q_X5_isNarrower_61 at hp
    exact hret s0 (σ) _ _ _ _ _ _ dX5_isNarrower_61 hp.1.1 hP hD hS (Nat.le_of_ble_eq_true rfl) (Nat.le_of_ble_eq_true rfl) hp.2
  have B_16 : ∀  (σ : Mem) (H : Heap) (locs : List Loc) (ls : Array Slot), va_P D vwCl (W5 k ad (σ)) H → va_D A (W5 k ad (σ)) → va_S A s.heap H locs → lv_has ls 3 [] → (q_X5_isNarrower_16 post px)  σ → W p l e rm_X5_isNarrower s m args below meth c H locs 0 0 Q (F0 m 16 ls []) := by
    intro  σ H locs ls hP hD hS hl hp
    unfold q_X5_isNarrower_16 at hp
    exact hthr "java/lang/IndexOutOfBoundsException" "no such field" ["java/lang/RuntimeException", "java/lang/Exception"] 65 67 69 (k (1000 + 67)) (σ) _ _ _ _ _ _ _ (by decide +kernel) (by decide +kernel) (hts _ (List.mem_cons_of_mem _ A_217)) (hts _ (List.mem_cons_of_mem _ A_218)) (GG.sx hG 15 rfl) (hat_69 (fun w h => hts w (List.mem_cons_of_mem _ h)) (GG.nc hG (q := ("java/lang/IndexOutOfBoundsException", "java/lang/IndexOutOfBoundsException")) 6 rfl) (GG.nd hG)) vO_69 hl.1 dX5_isNarrower_16 dX5_isNarrower_19 dX5_isNarrower_20 dX5_isNarrower_22 dX5_isNarrower_25 (Nat.le_of_ble_eq_true rfl) (Nat.le_of_ble_eq_true rfl) (Nat.le_of_ble_eq_true rfl) (Nat.le_of_ble_eq_true rfl) hP hD hS (Nat.le_of_ble_eq_true rfl) (Nat.le_of_ble_eq_true rfl) hp
  refine lv_aload_n hx hb dX5_isNarrower_0 rfl (lv_at hl 0 rfl) ?_
  refine lv_iload_n hx hb dX5_isNarrower_1 rfl (lv_at hl 1 rfl) ?_
  refine fw_ciV (As := [.int p1]) (rest := []) hC (c_X5_isField l D k ad hp) (cwV 1 hts (gA_V A_220 A_221 A_222 A_25 A_212) rfl rfl rfl (by decide +kernel) ⟨Nat.le_of_ble_eq_true rfl, Nat.le_of_ble_eq_true rfl⟩) (va_recv hK hP (ci := 9) (q0 := 0) rfl rfl) rfl hl.1 rfl (Nat.le_of_ble_eq_true rfl) dX5_isNarrower_2 ⟨Nat.le_of_ble_eq_true rfl, Nat.le_of_ble_eq_true rfl⟩ hP hD hS Jn.same (fun r1 σ2 H locs hP hD hS hp => ?_)
  have hP : va_P D vwCl (W5 k ad (σ2)) H := hP
  have hD : va_D A (W5 k ad (σ2)) := hD
  refine lv_if_eq (tgt := 16) hx hb dX5_isNarrower_5 (by decide) (fun c3 => ?_) (fun c3 => ?_)
  · have hp := hp.1 c3
    exact B_16  (σ2) _ _ _  hP hD hS (lv_sub hl [] rfl) hp
  · have hp := hp.2 c3
    refine lv_aload_n hx hb dX5_isNarrower_8 rfl (lv_at hl 0 rfl) ?_
    refine lv_iload_n hx hb dX5_isNarrower_9 rfl (lv_at hl 2 rfl) ?_
    refine fw_ciV (As := [.int p2]) (rest := []) hC (c_X5_isField l D k ad hp) (cwV 1 hts (gA_V A_220 A_221 A_222 A_25 A_212) rfl rfl rfl (by decide +kernel) ⟨Nat.le_of_ble_eq_true rfl, Nat.le_of_ble_eq_true rfl⟩) (va_recv hK hP (ci := 9) (q0 := 0) rfl rfl) rfl hl.1 rfl (Nat.le_of_ble_eq_true rfl) dX5_isNarrower_10 ⟨Nat.le_of_ble_eq_true rfl, Nat.le_of_ble_eq_true rfl⟩ hP hD hS Jn.same (fun r4 σ5 H locs hP hD hS hp => ?_)
    have hP : va_P D vwCl (W5 k ad (σ5)) H := hP
    have hD : va_D A (W5 k ad (σ5)) := hD
    refine lv_if_ne (tgt := 26) hx hb dX5_isNarrower_13 (by decide) (fun c6 => ?_) (fun c6 => ?_)
    · have hp := hp.1 c6
      refine lv_aload_n hx hb dX5_isNarrower_26 rfl (lv_at hl 0 rfl) ?_
      refine va_get (D := D) (ci := 9) (C := RX5) (T := TX5) (N := 4) hx hb hts hin_X5 hown hK hP 0 rfl rfl 1 (by decide) hf_21 (fun _ h9 => h9) rfl dX5_isNarrower_27 ?_
      refine va_get (D := D) (ci := 8) (C := RX4) (T := TX4) (N := 7) hx hb hts hin_X4 hown hK hP 11 rfl rfl 1 (by decide) hf_113 (fun _ h9 => h9) rfl dX5_isNarrower_30 ?_
      refine va_get (D := D) (ci := 7) (C := RX3) (T := TX3) (N := 3) hx hb hts hin_X3 hown hK hP 12 rfl rfl 1 (by decide) hf_168 (fun _ h9 => h9) rfl dX5_isNarrower_33 ?_
      refine lv_iload_n hx hb dX5_isNarrower_36 rfl (lv_at hl 1 rfl) ?_
      obtain ⟨h7, hp⟩ := hp
      refine va_iald hx hb hK hP 13 0 rfl rfl h7 dX5_isNarrower_37 ?_
      refine lv_aload_n hx hb dX5_isNarrower_38 rfl (lv_at hl 0 rfl) ?_
      refine va_get (D := D) (ci := 9) (C := RX5) (T := TX5) (N := 4) hx hb hts hin_X5 hown hK hP 0 rfl rfl 1 (by decide) hf_21 (fun _ h9 => h9) rfl dX5_isNarrower_39 ?_
      refine va_get (D := D) (ci := 8) (C := RX4) (T := TX4) (N := 7) hx hb hts hin_X4 hown hK hP 11 rfl rfl 1 (by decide) hf_113 (fun _ h9 => h9) rfl dX5_isNarrower_42 ?_
      refine va_get (D := D) (ci := 7) (C := RX3) (T := TX3) (N := 3) hx hb hts hin_X3 hown hK hP 12 rfl rfl 1 (by decide) hf_168 (fun _ h9 => h9) rfl dX5_isNarrower_45 ?_
      refine lv_iload_n hx hb dX5_isNarrower_48 rfl (lv_at hl 2 rfl) ?_
      obtain ⟨h8, hp⟩ := hp
      refine va_iald hx hb hK hP 13 0 rfl rfl h8 dX5_isNarrower_49 ?_
      refine lv_iconst (v := (-1)) hx hb dX5_isNarrower_50 (by decide) ?_
      refine lv_ixor hx hb dX5_isNarrower_51 ?_
      refine lv_iand hx hb dX5_isNarrower_52 ?_
      refine lv_if_ne (tgt := 60) hx hb dX5_isNarrower_53 (by decide) (fun c9 => ?_) (fun c9 => ?_)
      · have hp := hp.1 c9
        refine lv_iconst (v := 0) hx hb dX5_isNarrower_60 (by decide) ?_
        exact B_61 0 (σ5) _ _ _  hP hD hS (lv_sub hl [] rfl) hp
      · have hp := hp.2 c9
        refine lv_iconst (v := 1) hx hb dX5_isNarrower_56 (by decide) ?_
        refine lv_goto (tgt := 61) hx hb dX5_isNarrower_57 (by decide) ?_
        exact B_61 1 (σ5) _ _ _  hP hD hS (lv_sub hl [] rfl) hp
    · have hp := hp.2 c6
      exact B_16  (σ5) _ _ _  hP hD hS (lv_sub hl [] rfl) hp
