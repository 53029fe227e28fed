def q_X5_field  (post : Int32 → Mem → Prop) (px : String → Mem → Prop) (p1 : Int32) (σ : Mem) : Prop := (q_X5_isTeam (fun (r1 : Int32) (σ2 : Mem) => ((r1 ≠ 0 → ((((σ) 1 9) < 5 → (q_X2_makeField (fun (r5 : Int32) (σ6 : Mem) => (q_X4_renew (fun (σ8 : Mem) => post r5 (σ8)) (σ6))) p1 (σ))) ∧ (¬ (((σ) 1 9) < 5) → (px "java/lang/IllegalStateException" (σ))))) ∧ (r1 = 0 → (px "java/lang/IllegalArgumentException" (σ))))) p1 (σ))
abbrev rm_X5_field : Room := { frames := 19, cells := 1, slots := 6, locals := 907 }
abbrev wq_X5_field : List Cond := Cond.code yX5_field cX5_field 3 (some .int) :: wALL
set_option maxHeartbeats 4000000 in
set_option maxRecDepth 100000 in
theorem c_X5_field (l : Launch) (hflag : l.stackTraces = false) (D : va_G) (k ad : Nat → Nat) {sz : Nat} {σ : Mem} {p1 : Int32} {post : Int32 → Mem → Prop} {px : String → Mem → Prop} (hp : q_X5_field post px p1 σ) : vx_Met l yX5_field wq_X5_field rm_X5_field (va_Pc [.ref (ad 0), .int p1] (Pw D k (W5 k ad (σ)) sz)) (va_Qi post (fun u => Bw D (W5 k ad (σ)) sz (W5 k ad u)) (va_A (W5 k ad (σ)) sz)) (vx_X (fun z : String × Mem => px z.1 z.2) (fun E z t => E = z.1 ∧ Bw D (W5 k ad (σ)) sz (W5 k ad z.2) t) (va_A (W5 k ad (σ)) sz)) 1 6 (va_A (W5 k ad (σ)) sz) := by
  refine fw_xi hflag (wf := fun u : Mem => W5 k ad u) (by decide) rfl (Nat.le_of_ble_eq_true rfl) ?_
  intro p e s m args below meth c A Q ls hC hP hD hl hret hthr
  obtain ⟨⟨hx, hb, hml, hown, hts⟩, hG, hA⟩ := id hC
  have hK := hG.1
  have hS : va_S A s.heap s.heap [] := va_S.rf
  have hin_X5 : ∀ w ∈ u_ws RX5 TX5 4, w ∈ wq_X5_field := fun w h => List.mem_cons_of_mem _ (iU_X5 w h)
  have hf_10 := hts _ (List.mem_cons_of_mem _ A_183)
  have hin_X2 : ∀ w ∈ u_ws RX2 TX2 11, w ∈ wq_X5_field := fun w h => List.mem_cons_of_mem _ (iU_X2 w h)
  have hf_47 := hts _ (List.mem_cons_of_mem _ A_202)
  have hf_21 := hts _ (List.mem_cons_of_mem _ A_186)
  have hl : lv_has ls 3 [(0, .ref (ad 0)), (1, .int p1)] := hl
  have hown : s.vm.findClass RX5 = some m.cls := hown
  unfold q_X5_field at hp
  refine lv_iload_n hx hb dX5_field_0 rfl (lv_at hl 1 rfl) ?_
  refine fw_ciS (As := [.int p1]) (rest := []) hC (c_X5_isTeam l D k hp) (va_cwS 1 hts (gA_S A_203 A_204 A_25 A_197) rfl rfl rfl (by decide +kernel) ⟨Nat.le_of_ble_eq_true rfl, Nat.le_of_ble_eq_true rfl⟩) rfl hl.1 rfl (Nat.le_of_ble_eq_true rfl) dX5_field_1 ⟨Nat.le_of_ble_eq_true rfl, Nat.le_of_ble_eq_true rfl⟩ P_nil D_nil hS (Jn.pure (w0 := fun _ : Mem => []) hP hD) (fun r1 σ2 H locs hP hD hS hp => ?_)
  have hP : va_P D vwCl (W5 k ad (σ)) H := hP
  have hD : va_D A (W5 k ad (σ)) := hD
  refine lv_if_ne (tgt := 17) hx hb dX5_field_4 (by decide) (fun c3 => ?_) (fun c3 => ?_)
  · have hp := hp.1 c3
    refine lv_aload_n hx hb dX5_field_17 rfl (lv_at hl 0 rfl) ?_
    refine va_get (D := D) (ci := 9) (C := RX5) (T := TX5) (N := 4) hx hb hts hin_X5 hown hK hP 0 rfl rfl 0 (by decide) hf_10 (fun _ h9 => h9) rfl dX5_field_18 ?_
    refine va_get (D := D) (ci := 6) (C := RX2) (T := TX2) (N := 11) hx hb hts hin_X2 hown hK hP 1 rfl rfl 9 (by decide) hf_47 (fun _ h9 => h9) rfl dX5_field_21 ?_
    refine lv_iconst (v := 5) hx hb dX5_field_24 (by decide) ?_
    refine lv_icmp_lt (tgt := 38) hx hb dX5_field_25 (by decide) (fun c4 => ?_) (fun c4 => ?_)
    · have hp := hp.1 c4
      refine lv_aload_n hx hb dX5_field_38 rfl (lv_at hl 0 rfl) ?_
      refine va_get (D := D) (ci := 9) (C := RX5) (T := TX5) (N := 4) hx hb hts hin_X5 hown hK hP 0 rfl rfl 0 (by decide) hf_10 (fun _ h9 => h9) rfl dX5_field_39 ?_
      refine lv_iload_n hx hb dX5_field_42 rfl (lv_at hl 1 rfl) ?_
      refine fw_ciV (As := [.int p1]) (rest := []) hC (c_X2_makeField l D k ad hp) (cwV 1 hts (gA_V A_205 A_206 A_207 A_29 A_85) rfl rfl rfl (by decide +kernel) ⟨Nat.le_of_ble_eq_true rfl, Nat.le_of_ble_eq_true rfl⟩) (va_recv hK hP (ci := 6) (q0 := 1) rfl rfl) rfl hl.1 rfl (Nat.le_of_ble_eq_true rfl) dX5_field_43 ⟨Nat.le_of_ble_eq_true rfl, Nat.le_of_ble_eq_true rfl⟩ hP hD hS Jn.same (fun r5 σ6 H locs hP hD hS hp => ?_)
      have hP : va_P D vwCl (W5 k ad (σ6)) H := hP
      have hD : va_D A (W5 k ad (σ6)) := hD
      refine lv_istore_n (lv' := [(2, .int r5), (0, .ref (ad 0)), (1, .int p1)]) hx hb dX5_field_46 rfl hl (by decide) rfl (fun ls hl => ?_)
      refine lv_aload_n hx hb dX5_field_47 rfl (lv_at hl 1 rfl) ?_
      refine va_get (D := D) (ci := 9) (C := RX5) (T := TX5) (N := 4) hx hb hts hin_X5 hown hK hP 0 rfl rfl 1 (by decide) hf_21 (fun _ h9 => h9) rfl dX5_field_48 ?_
      refine fw_cvV (As := []) (rest := []) hC (c_X4_renew l D k ad hp) (cwV 0 hts (gA_V A_208 A_209 A_210 A_173 A_176) rfl rfl rfl (by decide +kernel) ⟨Nat.le_of_ble_eq_true rfl, Nat.le_of_ble_eq_true rfl⟩) (va_recv hK hP (ci := 8) (q0 := 11) rfl rfl) rfl hl.1 rfl (Nat.le_of_ble_eq_true rfl) dX5_field_51 ⟨Nat.le_of_ble_eq_true rfl, Nat.le_of_ble_eq_true rfl⟩ hP hD hS Jn.same (fun σ8 H locs hP hD hS hp => ?_)
      have hP : va_P D vwCl (W5 k ad (σ8)) H := hP
      have hD : va_D A (W5 k ad (σ8)) := hD
      refine lv_iload_n hx hb dX5_field_54 rfl (lv_at hl 0 rfl) ?_
      exact hret r5 (σ8) _ _ _ _ _ _ dX5_field_55 rfl hP hD hS (Nat.le_of_ble_eq_true rfl) (Nat.le_of_ble_eq_true rfl) hp
    · have hp := hp.2 c4
      exact hthr "java/lang/IllegalStateException" "there are 5 fields" ["java/lang/RuntimeException", "java/lang/Exception"] 50 52 54 (k (1000 + 52)) (σ) _ _ _ _ _ _ _ (by decide +kernel) (by decide +kernel) (hts _ (List.mem_cons_of_mem _ A_200)) (hts _ (List.mem_cons_of_mem _ A_201)) (GG.sx hG 14 rfl) (hat_54 (fun w h => hts w (List.mem_cons_of_mem _ h)) (GG.nc hG (q := ("java/lang/IllegalStateException", "java/lang/IllegalStateException")) 5 rfl) (GG.nd hG)) vO_54 hl.1 dX5_field_28 dX5_field_31 dX5_field_32 dX5_field_34 dX5_field_37 (Nat.le_of_ble_eq_true rfl) (Nat.le_of_ble_eq_true rfl) (Nat.le_of_ble_eq_true rfl) (Nat.le_of_ble_eq_true rfl) hP hD hS (Nat.le_of_ble_eq_true rfl) (Nat.le_of_ble_eq_true rfl) hp
  · have hp := hp.2 c3
    exact hthr "java/lang/IllegalArgumentException" "team is not 0 to 3" ["java/lang/RuntimeException", "java/lang/Exception"] 40 42 44 (k (1000 + 42)) (σ) _ _ _ _ _ _ _ (by decide +kernel) (by decide +kernel) (hts _ (List.mem_cons_of_mem _ A_198)) (hts _ (List.mem_cons_of_mem _ A_199)) (GG.sx hG 13 rfl) (hat_44 (fun w h => hts w (List.mem_cons_of_mem _ h)) (GG.nc hG (q := ("java/lang/IllegalArgumentException", "java/lang/IllegalArgumentException")) 4 rfl) (GG.nd hG)) vO_44 hl.1 dX5_field_7 dX5_field_10 dX5_field_11 dX5_field_13 dX5_field_16 (Nat.le_of_ble_eq_true rfl) (Nat.le_of_ble_eq_true rfl) (Nat.le_of_ble_eq_true rfl) (Nat.le_of_ble_eq_true rfl) hP hD hS (Nat.le_of_ble_eq_true rfl) (Nat.le_of_ble_eq_true rfl) hp
def q_X5_oneOf_37  (post : Int32 → Mem → Prop) (px : String → Mem → Prop)  (σ : Mem) : Prop := (px "java/lang/IllegalArgumentException" (σ))
def q_X5_oneOf  (post : Int32 → Mem → Prop) (px : String → Mem → Prop) (p1 : Int32) (p2 : Int32) (p3 : Int32) (σ : Mem) : Prop := (q_X5_isField (fun (r1 : Int32) (σ2 : Mem) => ((r1 ≠ 0 → (q_X5_isTeam (fun (r4 : Int32) (σ5 : Mem) => ((r4 = 0 → (q_X5_oneOf_37 post px) (σ2)) ∧ (¬ (r4 = 0) → ((p3 < 1 → (q_X5_oneOf_37 post px) (σ2)) ∧ (¬ (p3 < 1) → ((p3 ≤ 255 → ((((σ2) 1 10) < 30 → (q_X5_tell (fun (r10 : Int32) (σ11 : Mem) => post r10 (σ11)) 0 p1 p2 p3 0 (σ2))) ∧ (¬ (((σ2) 1 10) < 30) → (px "java/lang/IllegalStateException" (σ2))))) ∧ (¬ (p3 ≤ 255) → (q_X5_oneOf_37 post px) (σ2)))))))) p1 (σ2))) ∧ (r1 = 0 → (px "java/lang/IndexOutOfBoundsException" (σ2))))) p2 (σ))
abbrev rm_X5_oneOf : Room := { frames := 20, cells := 1, slots := 6, locals := 933 }
abbrev wq_X5_oneOf : List Cond := Cond.code yX5_oneOf cX5_oneOf 4 (some .int) :: wALL
set_option maxHeartbeats 4000000 in
set_option maxRecDepth 100000 in
theorem c_X5_oneOf (l : Launch) (hflag : l.stackTraces = false) (D : va_G) (k ad : Nat → Nat) {sz : Nat} {σ : Mem} {p1 : Int32} {p2 : Int32} {p3 : Int32} {post : Int32 → Mem → Prop} {px : String → Mem → Prop} (hp : q_X5_oneOf post px p1 p2 p3 σ) : vx_Met l yX5_oneOf wq_X5_oneOf rm_X5_oneOf (va_Pc [.ref (ad 0), .int p1, .int p2, .int p3] (Pw D k (W5 k ad (σ)) sz)) (va_Qi post (fun u => Bw D (W5 k ad (σ)) sz (W5 k ad u)) (va_A (W5 k ad (σ)) sz)) (vx_X (fun z : String × Mem => px z.1 z.2) (fun E z t => E = z.1 ∧ Bw D (W5 k ad (σ)) sz (W5 k ad z.2) t) (va_A (W5 k ad (σ)) sz)) 1 6 (va_A (W5 k ad (σ)) sz) := by
  refine fw_xi hflag (wf := fun u : Mem => W5 k ad u) (by decide) rfl (Nat.le_of_ble_eq_true rfl) ?_
  intro p e s m args below meth c A Q ls hC hP hD hl hret hthr
  obtain ⟨⟨hx, hb, hml, hown, hts⟩, hG, hA⟩ := id hC
  have hK := hG.1
  have hS : va_S A s.heap s.heap [] := va_S.rf
  have hin_X5 : ∀ w ∈ u_ws RX5 TX5 4, w ∈ wq_X5_oneOf := fun w h => List.mem_cons_of_mem _ (iU_X5 w h)
  have hf_10 := hts _ (List.mem_cons_of_mem _ A_183)
  have hin_X2 : ∀ w ∈ u_ws RX2 TX2 11, w ∈ wq_X5_oneOf := fun w h => List.mem_cons_of_mem _ (iU_X2 w h)
  have hf_72 := hts _ (List.mem_cons_of_mem _ A_219)
  have hl : lv_has ls 4 [(0, .ref (ad 0)), (1, .int p1), (2, .int p2), (3, .int p3)] := hl
  have hown : s.vm.findClass RX5 = some m.cls := hown
  unfold q_X5_oneOf at hp
  have B_37 : ∀  (σ : Mem) (H : Heap) (locs : List Loc) (ls : Array Slot), va_P D vwCl (W5 k ad (σ)) H → va_D A (W5 k ad (σ)) → va_S A s.heap H locs → lv_has ls 4 [] → (q_X5_oneOf_37 post px)  σ → W p l e rm_X5_oneOf s m args below meth c H locs 0 0 Q (F0 m 37 ls []) := by
    intro  σ H locs ls hP hD hS hl hp
    unfold q_X5_oneOf_37 at hp
    exact hthr "java/lang/IllegalArgumentException" "team is not 0 to 3, or set not 1 to 255" ["java/lang/RuntimeException", "java/lang/Exception"] 40 70 44 (k (1000 + 70)) (σ) _ _ _ _ _ _ _ (by decide +kernel) (by decide +kernel) (hts _ (List.mem_cons_of_mem _ A_198)) (hts _ (List.mem_cons_of_mem _ A_199)) (GG.sx hG 16 rfl) (hat_44 (fun w h => hts w (List.mem_cons_of_mem _ h)) (GG.nc hG (q := ("java/lang/IllegalArgumentException", "java/lang/IllegalArgumentException")) 4 rfl) (GG.nd hG)) vO_44 hl.1 dX5_oneOf_37 dX5_oneOf_40 dX5_oneOf_41 dX5_oneOf_43 dX5_oneOf_46 (Nat.le_of_ble_eq_true rfl) (Nat.le_of_ble_eq_true rfl) (Nat.le_of_ble_eq_true rfl) (Nat.le_of_ble_eq_true rfl) hP hD hS (Nat.le_of_ble_eq_true rfl) (Nat.le_of_ble_eq_true rfl) hp
  refine lv_aload_n hx hb dX5_oneOf_0 rfl (lv_at hl 0 rfl) ?_
  refine lv_iload_n hx hb dX5_oneOf_1 rfl (lv_at hl 2 rfl) ?_
  refine fw_ciV (As := [.int p2]) (rest := []) hC (c_X5_isField l D k ad hp) (cwV 1 hts (gA_V A_220 A_221 A_222 A_25 A_212) rfl rfl rfl (by decide +kernel) ⟨Nat.le_of_ble_eq_true rfl, Nat.le_of_ble_eq_true rfl⟩) (va_recv hK hP (ci := 9) (q0 := 0) rfl rfl) rfl hl.1 rfl (Nat.le_of_ble_eq_true rfl) dX5_oneOf_2 ⟨Nat.le_of_ble_eq_true rfl, Nat.le_of_ble_eq_true rfl⟩ hP hD hS Jn.same (fun r1 σ2 H locs hP hD hS hp => ?_)
  have hP : va_P D vwCl (W5 k ad (σ2)) H := hP
  have hD : va_D A (W5 k ad (σ2)) := hD
  refine lv_if_ne (tgt := 18) hx hb dX5_oneOf_5 (by decide) (fun c3 => ?_) (fun c3 => ?_)
  · have hp := hp.1 c3
    refine lv_iload_n hx hb dX5_oneOf_18 rfl (lv_at hl 1 rfl) ?_
    refine fw_ciS (As := [.int p1]) (rest := []) hC (c_X5_isTeam l D k hp) (va_cwS 1 hts (gA_S A_203 A_204 A_25 A_197) rfl rfl rfl (by decide +kernel) ⟨Nat.le_of_ble_eq_true rfl, Nat.le_of_ble_eq_true rfl⟩) rfl hl.1 rfl (Nat.le_of_ble_eq_true rfl) dX5_oneOf_19 ⟨Nat.le_of_ble_eq_true rfl, Nat.le_of_ble_eq_true rfl⟩ P_nil D_nil hS (Jn.pure (w0 := fun _ : Mem => []) hP hD) (fun r4 σ5 H locs hP hD hS hp => ?_)
    have hP : va_P D vwCl (W5 k ad (σ2)) H := hP
    have hD : va_D A (W5 k ad (σ2)) := hD
    refine lv_if_eq (tgt := 37) hx hb dX5_oneOf_22 (by decide) (fun c6 => ?_) (fun c6 => ?_)
    · have hp := hp.1 c6
      exact B_37  (σ2) _ _ _  hP hD hS (lv_sub hl [] rfl) hp
    · have hp := hp.2 c6
      refine lv_iload_n hx hb dX5_oneOf_25 rfl (lv_at hl 3 rfl) ?_
      refine lv_iconst (v := 1) hx hb dX5_oneOf_26 (by decide) ?_
      refine lv_icmp_lt (tgt := 37) hx hb dX5_oneOf_27 (by decide) (fun c7 => ?_) (fun c7 => ?_)
      · have hp := hp.1 c7
        exact B_37  (σ2) _ _ _  hP hD hS (lv_sub hl [] rfl) hp
      · have hp := hp.2 c7
        refine lv_iload_n hx hb dX5_oneOf_30 rfl (lv_at hl 3 rfl) ?_
        refine lv_sipush (v := 255) hx hb dX5_oneOf_31 (by decide) ?_
        refine lv_icmp_le (tgt := 47) hx hb dX5_oneOf_34 (by decide) (fun c8 => ?_) (fun c8 => ?_)
        · have hp := hp.1 c8
          refine lv_aload_n hx hb dX5_oneOf_47 rfl (lv_at hl 0 rfl) ?_
          refine va_get (D := D) (ci := 9) (C := RX5) (T := TX5) (N := 4) hx hb hts hin_X5 hown hK hP 0 rfl rfl 0 (by decide) hf_10 (fun _ h9 => h9) rfl dX5_oneOf_48 ?_
          refine va_get (D := D) (ci := 6) (C := RX2) (T := TX2) (N := 11) hx hb hts hin_X2 hown hK hP 1 rfl rfl 10 (by decide) hf_72 (fun _ h9 => h9) rfl dX5_oneOf_51 ?_
          refine lv_bipush (v := 30) hx hb dX5_oneOf_54 (by decide) ?_
          refine lv_icmp_lt (tgt := 69) hx hb dX5_oneOf_56 (by decide) (fun c9 => ?_) (fun c9 => ?_)
          · have hp := hp.1 c9
            refine lv_aload_n hx hb dX5_oneOf_69 rfl (lv_at hl 0 rfl) ?_
            refine lv_iconst (v := 0) hx hb dX5_oneOf_70 (by decide) ?_
            refine lv_iload_n hx hb dX5_oneOf_71 rfl (lv_at hl 1 rfl) ?_
            refine lv_iload_n hx hb dX5_oneOf_72 rfl (lv_at hl 2 rfl) ?_
            refine lv_iload_n hx hb dX5_oneOf_73 rfl (lv_at hl 3 rfl) ?_
            refine lv_iconst (v := 0) hx hb dX5_oneOf_74 (by decide) ?_
            refine fw_ciV (As := [.int 0, .int p1, .int p2, .int p3, .int 0]) (rest := []) hC (c_X5_tell l D k ad hp) (cwV 5 hts (gA_V A_223 A_224 A_225 A_25 A_216) rfl rfl rfl (by decide +kernel) ⟨Nat.le_of_ble_eq_true rfl, Nat.le_of_ble_eq_true rfl⟩) (va_recv hK hP (ci := 9) (q0 := 0) rfl rfl) rfl hl.1 rfl (Nat.le_of_ble_eq_true rfl) dX5_oneOf_75 ⟨Nat.le_of_ble_eq_true rfl, Nat.le_of_ble_eq_true rfl⟩ hP hD hS Jn.same (fun r10 σ11 H locs hP hD hS hp => ?_)
            have hP : va_P D vwCl (W5 k ad (σ11)) H := hP
            have hD : va_D A (W5 k ad (σ11)) := hD
            exact hret r10 (σ11) _ _ _ _ _ _ dX5_oneOf_78 rfl hP hD hS (Nat.le_of_ble_eq_true rfl) (Nat.le_of_ble_eq_true rfl) hp
          · have hp := hp.2 c9
            exact hthr "java/lang/IllegalStateException" "there are 30 lines" ["java/lang/RuntimeException", "java/lang/Exception"] 50 75 54 (k (1000 + 75)) (σ2) _ _ _ _ _ _ _ (by decide +kernel) (by decide +kernel) (hts _ (List.mem_cons_of_mem _ A_200)) (hts _ (List.mem_cons_of_mem _ A_201)) (GG.sx hG 17 rfl) (hat_54 (fun w h => hts w (List.mem_cons_of_mem _ h)) (GG.nc hG (q := ("java/lang/IllegalStateException", "java/lang/IllegalStateException")) 5 rfl) (GG.nd hG)) vO_54 hl.1 dX5_oneOf_59 dX5_oneOf_62 dX5_oneOf_63 dX5_oneOf_65 dX5_oneOf_68 (Nat.le_of_ble_eq_true rfl) (Nat.le_of_ble_eq_true rfl) (Nat.le_of_ble_eq_true rfl) (Nat.le_of_ble_eq_true rfl) hP hD hS (Nat.le_of_ble_eq_true rfl) (Nat.le_of_ble_eq_true rfl) hp
        · have hp := hp.2 c8
          exact B_37  (σ2) _ _ _  hP hD hS (lv_sub hl [] rfl) hp
  · have hp := hp.2 c3
    exact hthr "java/lang/IndexOutOfBoundsException" "no such field" ["java/lang/RuntimeException", "java/lang/Exception"] 65 67 69 (k (1000 + 67)) (σ2) _ _ _ _ _ _ _ (by decide +kernel) (by decide +kernel) (hts _ (List.mem_cons_of_mem _ A_217)) (hts _ (List.mem_cons_of_mem _ A_218)) (GG.sx hG 15 rfl) (hat_69 (fun w h => hts w (List.mem_cons_of_mem _ h)) (GG.nc hG (q := ("java/lang/IndexOutOfBoundsException", "java/lang/IndexOutOfBoundsException")) 6 rfl) (GG.nd hG)) vO_69 hl.1 dX5_oneOf_8 dX5_oneOf_11 dX5_oneOf_12 dX5_oneOf_14 dX5_oneOf_17 (Nat.le_of_ble_eq_true rfl) (Nat.le_of_ble_eq_true rfl) (Nat.le_of_ble_eq_true rfl) (Nat.le_of_ble_eq_true rfl) hP hD hS (Nat.le_of_ble_eq_true rfl) (Nat.le_of_ble_eq_true rfl) hp
def q_X5_bound_75  (post : Int32 → Mem → Prop) (px : String → Mem → Prop)  (s0 : Int32) (x1 : Int32) (x2 : Int32) (x3 : Int32) (σ : Mem) : Prop := (q_X5_tell (fun (r2001 : Int32) (σ2002 : Mem) => post r2001 (σ2002)) s0 x1 x2 x3 0 (σ))
def q_X5_bound_32  (post : Int32 → Mem → Prop) (px : String → Mem → Prop)  (σ : Mem) : Prop := (px "java/lang/IllegalArgumentException" (σ))
def q_X5_bound  (post : Int32 → Mem → Prop) (px : String → Mem → Prop) (p1 : Int32) (p2 : Int32) (p3 : Int32) (p4 : Int32) (σ : Mem) : Prop := (q_X5_isField (fun (r1 : Int32) (σ2 : Mem) => ((r1 ≠ 0 → (q_X5_isTeam (fun (r4 : Int32) (σ5 : Mem) => ((r4 = 0 → (q_X5_bound_32 post px) (σ2)) ∧ (¬ (r4 = 0) → (q_X5_isNumber (fun (r7 : Int32) (σ8 : Mem) => ((r7 ≠ 0 → ((((σ2) 1 10) < 30 → ((p4 = 0 → (q_X5_bound_75 post px) 1 p1 p2 p3 (σ2)) ∧ (¬ (p4 = 0) → (q_X5_bound_75 post px) 2 p1 p2 p3 (σ2)))) ∧ (¬ (((σ2) 1 10) < 30) → (px "java/lang/IllegalStateException" (σ2))))) ∧ (r7 = 0 → (q_X5_bound_32 post px) (σ2)))) p3 (σ2))))) p1 (σ2))) ∧ (r1 = 0 → (px "java/lang/IndexOutOfBoundsException" (σ2))))) p2 (σ))
abbrev rm_X5_bound : Room := { frames := 20, cells := 1, slots := 6, locals := 933 }
abbrev wq_X5_bound : List Cond := Cond.code yX5_bound cX5_bound 5 (some .int) :: wALL
set_option maxHeartbeats 4000000 in
set_option maxRecDepth 100000 in
theorem c_X5_bound (l : Launch) (hflag : l.stackTraces = false) (D : va_G) (k ad : Nat → Nat) {sz : Nat} {σ : Mem} {p1 : Int32} {p2 : Int32} {p3 : Int32} {p4 : Int32} {post : Int32 → Mem → Prop} {px : String → Mem → Prop} (hp : q_X5_bound post px p1 p2 p3 p4 σ) : vx_Met l yX5_bound wq_X5_bound rm_X5_bound (va_Pc [.ref (ad 0), .int p1, .int p2, .int p3, .int p4] (Pw D k (W5 k ad (σ)) sz)) (va_Qi post (fun u => Bw D (W5 k ad (σ)) sz (W5 k ad u)) (va_A (W5 k ad (σ)) sz)) (vx_X (fun z : String × Mem => px z.1 z.2) (fun E z t => E = z.1 ∧ Bw D (W5 k ad (σ)) sz (W5 k ad z.2) t) (va_A (W5 k ad (σ)) sz)) 1 6 (va_A (W5 k ad (σ)) sz) := by
  refine fw_xi hflag (wf := fun u : Mem => W5 k ad u) (by decide) rfl (Nat.le_of_ble_eq_true rfl) ?_
  intro p e s m args below meth c A Q ls hC hP hD hl hret hthr
  obtain ⟨⟨hx, hb, hml, hown, hts⟩, hG, hA⟩ := id hC
  have hK := hG.1
  have hS : va_S A s.heap s.heap [] := va_S.rf
  have hin_X5 : ∀ w ∈ u_ws RX5 TX5 4, w ∈ wq_X5_bound := fun w h => List.mem_cons_of_mem _ (iU_X5 w h)
  have hf_10 := hts _ (List.mem_cons_of_mem _ A_183)
  have hin_X2 : ∀ w ∈ u_ws RX2 TX2 11, w ∈ wq_X5_bound := fun w h => List.mem_cons_of_mem _ (iU_X2 w h)
  have hf_72 := hts _ (List.mem_cons_of_mem _ A_219)
  have hl : lv_has ls 5 [(0, .ref (ad 0)), (1, .int p1), (2, .int p2), (3, .int p3), (4, .int p4)] := hl
  have hown : s.vm.findClass RX5 = some m.cls := hown
  unfold q_X5_bound at hp
  have B_75 : ∀ (s0 : Int32) (x1 : Int32) (x2 : Int32) (x3 : Int32) (σ : Mem) (H : Heap) (locs : List Loc) (ls : Array Slot), va_P D vwCl (W5 k ad (σ)) H → va_D A (W5 k ad (σ)) → va_S A s.heap H locs → lv_has ls 5 [(1, .int x1), (2, .int x2), (3, .int x3)] → (q_X5_bound_75 post px) s0 x1 x2 x3 σ → W p l e rm_X5_bound s m args below meth c H locs 0 0 Q (F0 m 75 ls [.int s0, .ref (ad 0)]) := by
    intro s0 x1 x2 x3 σ H locs ls hP hD hS hl hp
    unfold q_X5_bound_75 at hp
    refine lv_iload_n hx hb dX5_bound_75 rfl (lv_at hl 0 rfl) ?_
    refine lv_iload_n hx hb dX5_bound_76 rfl (lv_at hl 1 rfl) ?_
    refine lv_iload_n hx hb dX5_bound_77 rfl (lv_at hl 2 rfl) ?_
    refine lv_iconst (v := 0) hx hb dX5_bound_78 (by decide) ?_
    refine fw_ciV (As := [.int s0, .int x1, .int x2, .int x3, .int 0]) (rest := []) hC (c_X5_tell l D k ad hp) (cwV 5 hts (gA_V A_223 A_224 A_225 A_25 A_216) rfl rfl rfl (by decide +kernel) ⟨Nat.le_of_ble_eq_true rfl, Nat.le_of_ble_eq_true rfl⟩) (va_recv hK hP (ci := 9) (q0 := 0) rfl rfl) rfl hl.1 rfl (Nat.le_of_ble_eq_true rfl) dX5_bound_79 ⟨Nat.le_of_ble_eq_true rfl, Nat.le_of_ble_eq_true rfl⟩ hP hD hS Jn.same (fun r20001 σ20002 H locs hP hD hS hp => ?_)
    have hP : va_P D vwCl (W5 k ad (σ20002)) H := hP
    have hD : va_D A (W5 k ad (σ20002)) := hD
    exact hret r20001 (σ20002) _ _ _ _ _ _ dX5_bound_82 rfl hP hD hS (Nat.le_of_ble_eq_true rfl) (Nat.le_of_ble_eq_true rfl) hp
  have B_32 : ∀  (σ : Mem) (H : Heap) (locs : List Loc) (ls : Array Slot), va_P D vwCl (W5 k ad (σ)) H → va_D A (W5 k ad (σ)) → va_S A s.heap H locs → lv_has ls 5 [] → (q_X5_bound_32 post px)  σ → W p l e rm_X5_bound s m args below meth c H locs 0 0 Q (F0 m 32 ls []) := by
    intro  σ H locs ls hP hD hS hl hp
    unfold q_X5_bound_32 at hp
    exact hthr "java/lang/IllegalArgumentException" "team is not 0 to 3, or number not 0 to 7" ["java/lang/RuntimeException", "java/lang/Exception"] 40 84 44 (k (1000 + 84)) (σ) _ _ _ _ _ _ _ (by decide +kernel) (by decide +kernel) (hts _ (List.mem_cons_of_mem _ A_198)) (hts _ (List.mem_cons_of_mem _ A_199)) (GG.sx hG 18 rfl) (hat_44 (fun w h => hts w (List.mem_cons_of_mem _ h)) (GG.nc hG (q := ("java/lang/IllegalArgumentException", "java/lang/IllegalArgumentException")) 4 rfl) (GG.nd hG)) vO_44 hl.1 dX5_bound_32 dX5_bound_35 dX5_bound_36 dX5_bound_38 dX5_bound_41 (Nat.le_of_ble_eq_true rfl) (Nat.le_of_ble_eq_true rfl) (Nat.le_of_ble_eq_true rfl) (Nat.le_of_ble_eq_true rfl) hP hD hS (Nat.le_of_ble_eq_true rfl) (Nat.le_of_ble_eq_true rfl) hp
  refine lv_aload_n hx hb dX5_bound_0 rfl (lv_at hl 0 rfl) ?_
  refine lv_iload_n hx hb dX5_bound_1 rfl (lv_at hl 2 rfl) ?_
  refine fw_ciV (As := [.int p2]) (rest := []) hC (c_X5_isField l D k ad hp) (cwV 1 hts (gA_V A_220 A_221 A_222 A_25 A_212) rfl rfl rfl (by decide +kernel) ⟨Nat.le_of_ble_eq_true rfl, Nat.le_of_ble_eq_true rfl⟩) (va_recv hK hP (ci := 9) (q0 := 0) rfl rfl) rfl hl.1 rfl (Nat.le_of_ble_eq_true rfl) dX5_bound_2 ⟨Nat.le_of_ble_eq_true rfl, Nat.le_of_ble_eq_true rfl⟩ hP hD hS Jn.same (fun r1 σ2 H locs hP hD hS hp => ?_)
  have hP : va_P D vwCl (W5 k ad (σ2)) H := hP
  have hD : va_D A (W5 k ad (σ2)) := hD
  refine lv_if_ne (tgt := 18) hx hb dX5_bound_5 (by decide) (fun c3 => ?_) (fun c3 => ?_)
  · have hp := hp.1 c3
    refine lv_iload_n hx hb dX5_bound_18 rfl (lv_at hl 1 rfl) ?_
    refine fw_ciS (As := [.int p1]) (rest := []) hC (c_X5_isTeam l D k hp) (va_cwS 1 hts (gA_S A_203 A_204 A_25 A_197) rfl rfl rfl (by decide +kernel) ⟨Nat.le_of_ble_eq_true rfl, Nat.le_of_ble_eq_true rfl⟩) rfl hl.1 rfl (Nat.le_of_ble_eq_true rfl) dX5_bound_19 ⟨Nat.le_of_ble_eq_true rfl, Nat.le_of_ble_eq_true rfl⟩ P_nil D_nil hS (Jn.pure (w0 := fun _ : Mem => []) hP hD) (fun r4 σ5 H locs hP hD hS hp => ?_)
    have hP : va_P D vwCl (W5 k ad (σ2)) H := hP
    have hD : va_D A (W5 k ad (σ2)) := hD
    refine lv_if_eq (tgt := 32) hx hb dX5_bound_22 (by decide) (fun c6 => ?_) (fun c6 => ?_)
    · have hp := hp.1 c6
      exact B_32  (σ2) _ _ _  hP hD hS (lv_sub hl [] rfl) hp
    · have hp := hp.2 c6
      refine lv_iload_n hx hb dX5_bound_25 rfl (lv_at hl 3 rfl) ?_
      refine fw_ciS (As := [.int p3]) (rest := []) hC (c_X5_isNumber l D k hp) (va_cwS 1 hts (gA_S A_228 A_229 A_25 A_227) rfl rfl rfl (by decide +kernel) ⟨Nat.le_of_ble_eq_true rfl, Nat.le_of_ble_eq_true rfl⟩) rfl hl.1 rfl (Nat.le_of_ble_eq_true rfl) dX5_bound_26 ⟨Nat.le_of_ble_eq_true rfl, Nat.le_of_ble_eq_true rfl⟩ P_nil D_nil hS (Jn.pure (w0 := fun _ : Mem => []) hP hD) (fun r7 σ8 H locs hP hD hS hp => ?_)
      have hP : va_P D vwCl (W5 k ad (σ2)) H := hP
      have hD : va_D A (W5 k ad (σ2)) := hD
      refine lv_if_ne (tgt := 42) hx hb dX5_bound_29 (by decide) (fun c9 => ?_) (fun c9 => ?_)
      · have hp := hp.1 c9
        refine lv_aload_n hx hb dX5_bound_42 rfl (lv_at hl 0 rfl) ?_
        refine va_get (D := D) (ci := 9) (C := RX5) (T := TX5) (N := 4) hx hb hts hin_X5 hown hK hP 0 rfl rfl 0 (by decide) hf_10 (fun _ h9 => h9) rfl dX5_bound_43 ?_
        refine va_get (D := D) (ci := 6) (C := RX2) (T := TX2) (N := 11) hx hb hts hin_X2 hown hK hP 1 rfl rfl 10 (by decide) hf_72 (fun _ h9 => h9) rfl dX5_bound_46 ?_
        refine lv_bipush (v := 30) hx hb dX5_bound_49 (by decide) ?_
        refine lv_icmp_lt (tgt := 64) hx hb dX5_bound_51 (by decide) (fun c10 => ?_) (fun c10 => ?_)
        · have hp := hp.1 c10
          refine lv_aload_n hx hb dX5_bound_64 rfl (lv_at hl 0 rfl) ?_
          refine lv_iload hx hb dX5_bound_65 (lv_at hl 4 rfl) ?_
          refine lv_if_eq (tgt := 74) hx hb dX5_bound_67 (by decide) (fun c11 => ?_) (fun c11 => ?_)
          · have hp := hp.1 c11
            refine lv_iconst (v := 1) hx hb dX5_bound_74 (by decide) ?_
            exact B_75 1 p1 p2 p3 (σ2) _ _ _  hP hD hS (lv_sub hl [1, 2, 3] rfl) hp
          · have hp := hp.2 c11
            refine lv_iconst (v := 2) hx hb dX5_bound_70 (by decide) ?_
            refine lv_goto (tgt := 75) hx hb dX5_bound_71 (by decide) ?_
            exact B_75 2 p1 p2 p3 (σ2) _ _ _  hP hD hS (lv_sub hl [1, 2, 3] rfl) hp
        · have hp := hp.2 c10
          exact hthr "java/lang/IllegalStateException" "there are 30 lines" ["java/lang/RuntimeException", "java/lang/Exception"] 50 75 54 (k (1000 + 75)) (σ2) _ _ _ _ _ _ _ (by decide +kernel) (by decide +kernel) (hts _ (List.mem_cons_of_mem _ A_200)) (hts _ (List.mem_cons_of_mem _ A_201)) (GG.sx hG 17 rfl) (hat_54 (fun w h => hts w (List.mem_cons_of_mem _ h)) (GG.nc hG (q := ("java/lang/IllegalStateException", "java/lang/IllegalStateException")) 5 rfl) (GG.nd hG)) vO_54 hl.1 dX5_bound_54 dX5_bound_57 dX5_bound_58 dX5_bound_60 dX5_bound_63 (Nat.le_of_ble_eq_true rfl) (Nat.le_of_ble_eq_true rfl) (Nat.le_of_ble_eq_true rfl) (Nat.le_of_ble_eq_true rfl) hP hD hS (Nat.le_of_ble_eq_true rfl) (Nat.le_of_ble_eq_true rfl) hp
      · have hp := hp.2 c9
        exact B_32  (σ2) _ _ _  hP hD hS (lv_sub hl [] rfl) hp
  · have hp := hp.2 c3
    exact hthr "java/lang/IndexOutOfBoundsException" "no such field" ["java/lang/RuntimeException", "java/lang/Exception"] 65 67 69 (k (1000 + 67)) (σ2) _ _ _ _ _ _ _ (by decide +kernel) (by decide +kernel) (hts _ (List.mem_cons_of_mem _ A_217)) (hts _ (List.mem_cons_of_mem _ A_218)) (GG.sx hG 15 rfl) (hat_69 (fun w h => hts w (List.mem_cons_of_mem _ h)) (GG.nc hG (q := ("java/lang/IndexOutOfBoundsException", "java/lang/IndexOutOfBoundsException")) 6 rfl) (GG.nd hG)) vO_69 hl.1 dX5_bound_8 dX5_bound_11 dX5_bound_12 dX5_bound_14 dX5_bound_17 (Nat.le_of_ble_eq_true rfl) (Nat.le_of_ble_eq_true rfl) (Nat.le_of_ble_eq_true rfl) (Nat.le_of_ble_eq_true rfl) hP hD hS (Nat.le_of_ble_eq_true rfl) (Nat.le_of_ble_eq_true rfl) hp
def q_X5_more_52  (post : Int32 → Mem → Prop) (px : String → Mem → Prop)  (σ : Mem) : Prop := (px "java/lang/IllegalArgumentException" (σ))
def q_X5_more_16  (post : Int32 → Mem → Prop) (px : String → Mem → Prop)  (σ : Mem) : Prop := (px "java/lang/IndexOutOfBoundsException" (σ))
def q_X5_more  (post : Int32 → Mem → Prop) (px : String → Mem → Prop) (p1 : Int32) (p2 : Int32) (p3 : Int32) (p4 : Int32) (σ : Mem) : Prop := (q_X5_isField (fun (r1 : Int32) (σ2 : Mem) => ((r1 = 0 → (q_X5_more_16 post px) (σ2)) ∧ (¬ (r1 = 0) → (q_X5_isField (fun (r4 : Int32) (σ5 : Mem) => ((r4 ≠ 0 → (q_X5_isTeam (fun (r7 : Int32) (σ8 : Mem) => ((r7 = 0 → (q_X5_more_52 post px) (σ5)) ∧ (¬ (r7 = 0) → ((p2 = p3 → (q_X5_more_52 post px) (σ5)) ∧ (¬ (p2 = p3) → ((p4 < (-7) → (q_X5_more_52 post px) (σ5)) ∧ (¬ (p4 < (-7)) → ((p4 ≤ 7 → ((((σ5) 1 10) < 30 → (q_X5_tell (fun (r14 : Int32) (σ15 : Mem) => post r14 (σ15)) 3 p1 p2 p3 p4 (σ5))) ∧ (¬ (((σ5) 1 10) < 30) → (px "java/lang/IllegalStateException" (σ5))))) ∧ (¬ (p4 ≤ 7) → (q_X5_more_52 post px) (σ5)))))))))) p1 (σ5))) ∧ (r4 = 0 → (q_X5_more_16 post px) (σ5)))) p3 (σ2))))) p2 (σ))
abbrev rm_X5_more : Room := { frames := 20, cells := 1, slots := 6, locals := 933 }
abbrev wq_X5_more : List Cond := Cond.code yX5_more cX5_more 5 (some .int) :: wALL
set_option maxHeartbeats 4000000 in
set_option maxRecDepth 100000 in
theorem c_X5_more (l : Launch) (hflag : l.stackTraces = false) (D : va_G) (k ad : Nat → Nat) {sz : Nat} {σ : Mem} {p1 : Int32} {p2 : Int32} {p3 : Int32} {p4 : Int32} {post : Int32 → Mem → Prop} {px : String → Mem → Prop} (hp : q_X5_more post px p1 p2 p3 p4 σ) : vx_Met l yX5_more wq_X5_more rm_X5_more (va_Pc [.ref (ad 0), .int p1, .int p2, .int p3, .int p4] (Pw D k (W5 k ad (σ)) sz)) (va_Qi post (fun u => Bw D (W5 k ad (σ)) sz (W5 k ad u)) (va_A (W5 k ad (σ)) sz)) (vx_X (fun z : String × Mem => px z.1 z.2) (fun E z t => E = z.1 ∧ Bw D (W5 k ad (σ)) sz (W5 k ad z.2) t) (va_A (W5 k ad (σ)) sz)) 1 6 (va_A (W5 k ad (σ)) sz) := by
  refine fw_xi hflag (wf := fun u : Mem => W5 k ad u) (by decide) rfl (Nat.le_of_ble_eq_true rfl) ?_
  intro p e s m args below meth c A Q ls hC hP hD hl hret hthr
  obtain ⟨⟨hx, hb, hml, hown, hts⟩, hG, hA⟩ := id hC
  have hK := hG.1
  have hS : va_S A s.heap s.heap [] := va_S.rf
  have hin_X5 : ∀ w ∈ u_ws RX5 TX5 4, w ∈ wq_X5_more := fun w h => List.mem_cons_of_mem _ (iU_X5 w h)
  have hf_10 := hts _ (List.mem_cons_of_mem _ A_183)
  have hin_X2 : ∀ w ∈ u_ws RX2 TX2 11, w ∈ wq_X5_more := fun w h => List.mem_cons_of_mem _ (iU_X2 w h)
  have hf_72 := hts _ (List.mem_cons_of_mem _ A_219)
  have hl : lv_has ls 5 [(0, .ref (ad 0)), (1, .int p1), (2, .int p2), (3, .int p3), (4, .int p4)] := hl
  have hown : s.vm.findClass RX5 = some m.cls := hown
  unfold q_X5_more at hp
  have B_52 : ∀  (σ : Mem) (H : Heap) (locs : List Loc) (ls : Array Slot), va_P D vwCl (W5 k ad (σ)) H → va_D A (W5 k ad (σ)) → va_S A s.heap H locs → lv_has ls 5 [] → (q_X5_more_52 post px)  σ → W p l e rm_X5_more s m args below meth c H locs 0 0 Q (F0 m 52 ls []) := by
    intro  σ H locs ls hP hD hS hl hp
    unfold q_X5_more_52 at hp
    exact hthr "java/lang/IllegalArgumentException" "team is not 0 to 3, both are the same, or by is not -7 to 7" ["java/lang/RuntimeException", "java/lang/Exception"] 40 86 44 (k (1000 + 86)) (σ) _ _ _ _ _ _ _ (by decide +kernel) (by decide +kernel) (hts _ (List.mem_cons_of_mem _ A_198)) (hts _ (List.mem_cons_of_mem _ A_199)) (GG.sx hG 19 rfl) (hat_44 (fun w h => hts w (List.mem_cons_of_mem _ h)) (GG.nc hG (q := ("java/lang/IllegalArgumentException", "java/lang/IllegalArgumentException")) 4 rfl) (GG.nd hG)) vO_44 hl.1 dX5_more_52 dX5_more_55 dX5_more_56 dX5_more_58 dX5_more_61 (Nat.le_of_ble_eq_true rfl) (Nat.le_of_ble_eq_true rfl) (Nat.le_of_ble_eq_true rfl) (Nat.le_of_ble_eq_true rfl) hP hD hS (Nat.le_of_ble_eq_true rfl) (Nat.le_of_ble_eq_true rfl) hp
  have B_16 : ∀  (σ : Mem) (H : Heap) (locs : List Loc) (ls : Array Slot), va_P D vwCl (W5 k ad (σ)) H → va_D A (W5 k ad (σ)) → va_S A s.heap H locs → lv_has ls 5 [] → (q_X5_more_16 post px)  σ → W p l e rm_X5_more s m args below meth c H locs 0 0 Q (F0 m 16 ls []) := by
    intro  σ H locs ls hP hD hS hl hp
    unfold q_X5_more_16 at hp
    exact hthr "java/lang/IndexOutOfBoundsException" "no such field" ["java/lang/RuntimeException", "java/lang/Exception"] 65 67 69 (k (1000 + 67)) (σ) _ _ _ _ _ _ _ (by decide +kernel) (by decide +kernel) (hts _ (List.mem_cons_of_mem _ A_217)) (hts _ (List.mem_cons_of_mem _ A_218)) (GG.sx hG 15 rfl) (hat_69 (fun w h => hts w (List.mem_cons_of_mem _ h)) (GG.nc hG (q := ("java/lang/IndexOutOfBoundsException", "java/lang/IndexOutOfBoundsException")) 6 rfl) (GG.nd hG)) vO_69 hl.1 dX5_more_16 dX5_more_19 dX5_more_20 dX5_more_22 dX5_more_25 (Nat.le_of_ble_eq_true rfl) (Nat.le_of_ble_eq_true rfl) (Nat.le_of_ble_eq_true rfl) (Nat.le_of_ble_eq_true rfl) hP hD hS (Nat.le_of_ble_eq_true rfl) (Nat.le_of_ble_eq_true rfl) hp
  refine lv_aload_n hx hb dX5_more_0 rfl (lv_at hl 0 rfl) ?_
  refine lv_iload_n hx hb dX5_more_1 rfl (lv_at hl 2 rfl) ?_
  refine fw_ciV (As := [.int p2]) (rest := []) hC (c_X5_isField l D k ad hp) (cwV 1 hts (gA_V A_220 A_221 A_222 A_25 A_212) rfl rfl rfl (by decide +kernel) ⟨Nat.le_of_ble_eq_true rfl, Nat.le_of_ble_eq_true rfl⟩) (va_recv hK hP (ci := 9) (q0 := 0) rfl rfl) rfl hl.1 rfl (Nat.le_of_ble_eq_true rfl) dX5_more_2 ⟨Nat.le_of_ble_eq_true rfl, Nat.le_of_ble_eq_true rfl⟩ hP hD hS Jn.same (fun r1 σ2 H locs hP hD hS hp => ?_)
  have hP : va_P D vwCl (W5 k ad (σ2)) H := hP
  have hD : va_D A (W5 k ad (σ2)) := hD
  refine lv_if_eq (tgt := 16) hx hb dX5_more_5 (by decide) (fun c3 => ?_) (fun c3 => ?_)
  · have hp := hp.1 c3
    exact B_16  (σ2) _ _ _  hP hD hS (lv_sub hl [] rfl) hp
  · have hp := hp.2 c3
    refine lv_aload_n hx hb dX5_more_8 rfl (lv_at hl 0 rfl) ?_
    refine lv_iload_n hx hb dX5_more_9 rfl (lv_at hl 3 rfl) ?_
    refine fw_ciV (As := [.int p3]) (rest := []) hC (c_X5_isField l D k ad hp) (cwV 1 hts (gA_V A_220 A_221 A_222 A_25 A_212) rfl rfl rfl (by decide +kernel) ⟨Nat.le_of_ble_eq_true rfl, Nat.le_of_ble_eq_true rfl⟩) (va_recv hK hP (ci := 9) (q0 := 0) rfl rfl) rfl hl.1 rfl (Nat.le_of_ble_eq_true rfl) dX5_more_10 ⟨Nat.le_of_ble_eq_true rfl, Nat.le_of_ble_eq_true rfl⟩ hP hD hS Jn.same (fun r4 σ5 H locs hP hD hS hp => ?_)
    have hP : va_P D vwCl (W5 k ad (σ5)) H := hP
    have hD : va_D A (W5 k ad (σ5)) := hD
    refine lv_if_ne (tgt := 26) hx hb dX5_more_13 (by decide) (fun c6 => ?_) (fun c6 => ?_)
    · have hp := hp.1 c6
      refine lv_iload_n hx hb dX5_more_26 rfl (lv_at hl 1 rfl) ?_
      refine fw_ciS (As := [.int p1]) (rest := []) hC (c_X5_isTeam l D k hp) (va_cwS 1 hts (gA_S A_203 A_204 A_25 A_197) rfl rfl rfl (by decide +kernel) ⟨Nat.le_of_ble_eq_true rfl, Nat.le_of_ble_eq_true rfl⟩) rfl hl.1 rfl (Nat.le_of_ble_eq_true rfl) dX5_more_27 ⟨Nat.le_of_ble_eq_true rfl, Nat.le_of_ble_eq_true rfl⟩ P_nil D_nil hS (Jn.pure (w0 := fun _ : Mem => []) hP hD) (fun r7 σ8 H locs hP hD hS hp => ?_)
      have hP : va_P D vwCl (W5 k ad (σ5)) H := hP
      have hD : va_D A (W5 k ad (σ5)) := hD
      refine lv_if_eq (tgt := 52) hx hb dX5_more_30 (by decide) (fun c9 => ?_) (fun c9 => ?_)
      · have hp := hp.1 c9
        exact B_52  (σ5) _ _ _  hP hD hS (lv_sub hl [] rfl) hp
      · have hp := hp.2 c9
        refine lv_iload_n hx hb dX5_more_33 rfl (lv_at hl 2 rfl) ?_
        refine lv_iload_n hx hb dX5_more_34 rfl (lv_at hl 3 rfl) ?_
        refine lv_icmp_eq (tgt := 52) hx hb dX5_more_35 (by decide) (fun c10 => ?_) (fun c10 => ?_)
        · have hp := hp.1 c10
          exact B_52  (σ5) _ _ _  hP hD hS (lv_sub hl [] rfl) hp
        · have hp := hp.2 c10
          refine lv_iload hx hb dX5_more_38 (lv_at hl 4 rfl) ?_
          refine lv_bipush (v := (-7)) hx hb dX5_more_40 (by decide) ?_
          refine lv_icmp_lt (tgt := 52) hx hb dX5_more_42 (by decide) (fun c11 => ?_) (fun c11 => ?_)
          · have hp := hp.1 c11
            exact B_52  (σ5) _ _ _  hP hD hS (lv_sub hl [] rfl) hp
          · have hp := hp.2 c11
            refine lv_iload hx hb dX5_more_45 (lv_at hl 4 rfl) ?_
            refine lv_bipush (v := 7) hx hb dX5_more_47 (by decide) ?_
            refine lv_icmp_le (tgt := 62) hx hb dX5_more_49 (by decide) (fun c12 => ?_) (fun c12 => ?_)
            · have hp := hp.1 c12
              refine lv_aload_n hx hb dX5_more_62 rfl (lv_at hl 0 rfl) ?_
              refine va_get (D := D) (ci := 9) (C := RX5) (T := TX5) (N := 4) hx hb hts hin_X5 hown hK hP 0 rfl rfl 0 (by decide) hf_10 (fun _ h9 => h9) rfl dX5_more_63 ?_
              refine va_get (D := D) (ci := 6) (C := RX2) (T := TX2) (N := 11) hx hb hts hin_X2 hown hK hP 1 rfl rfl 10 (by decide) hf_72 (fun _ h9 => h9) rfl dX5_more_66 ?_
              refine lv_bipush (v := 30) hx hb dX5_more_69 (by decide) ?_
              refine lv_icmp_lt (tgt := 84) hx hb dX5_more_71 (by decide) (fun c13 => ?_) (fun c13 => ?_)
              · have hp := hp.1 c13
                refine lv_aload_n hx hb dX5_more_84 rfl (lv_at hl 0 rfl) ?_
                refine lv_iconst (v := 3) hx hb dX5_more_85 (by decide) ?_
                refine lv_iload_n hx hb dX5_more_86 rfl (lv_at hl 1 rfl) ?_
                refine lv_iload_n hx hb dX5_more_87 rfl (lv_at hl 2 rfl) ?_
                refine lv_iload_n hx hb dX5_more_88 rfl (lv_at hl 3 rfl) ?_
                refine lv_iload hx hb dX5_more_89 (lv_at hl 4 rfl) ?_
                refine fw_ciV (As := [.int 3, .int p1, .int p2, .int p3, .int p4]) (rest := []) hC (c_X5_tell l D k ad hp) (cwV 5 hts (gA_V A_223 A_224 A_225 A_25 A_216) rfl rfl rfl (by decide +kernel) ⟨Nat.le_of_ble_eq_true rfl, Nat.le_of_ble_eq_true rfl⟩) (va_recv hK hP (ci := 9) (q0 := 0) rfl rfl) rfl hl.1 rfl (Nat.le_of_ble_eq_true rfl) dX5_more_91 ⟨Nat.le_of_ble_eq_true rfl, Nat.le_of_ble_eq_true rfl⟩ hP hD hS Jn.same (fun r14 σ15 H locs hP hD hS hp => ?_)
                have hP : va_P D vwCl (W5 k ad (σ15)) H := hP
                have hD : va_D A (W5 k ad (σ15)) := hD
                exact hret r14 (σ15) _ _ _ _ _ _ dX5_more_94 rfl hP hD hS (Nat.le_of_ble_eq_true rfl) (Nat.le_of_ble_eq_true rfl) hp
              · have hp := hp.2 c13
                exact hthr "java/lang/IllegalStateException" "there are 30 lines" ["java/lang/RuntimeException", "java/lang/Exception"] 50 75 54 (k (1000 + 75)) (σ5) _ _ _ _ _ _ _ (by decide +kernel) (by decide +kernel) (hts _ (List.mem_cons_of_mem _ A_200)) (hts _ (List.mem_cons_of_mem _ A_201)) (GG.sx hG 17 rfl) (hat_54 (fun w h => hts w (List.mem_cons_of_mem _ h)) (GG.nc hG (q := ("java/lang/IllegalStateException", "java/lang/IllegalStateException")) 5 rfl) (GG.nd hG)) vO_54 hl.1 dX5_more_74 dX5_more_77 dX5_more_78 dX5_more_80 dX5_more_83 (Nat.le_of_ble_eq_true rfl) (Nat.le_of_ble_eq_true rfl) (Nat.le_of_ble_eq_true rfl) (Nat.le_of_ble_eq_true rfl) hP hD hS (Nat.le_of_ble_eq_true rfl) (Nat.le_of_ble_eq_true rfl) hp
            · have hp := hp.2 c12
              exact B_52  (σ5) _ _ _  hP hD hS (lv_sub hl [] rfl) hp
    · have hp := hp.2 c6
      exact B_16  (σ5) _ _ _  hP hD hS (lv_sub hl [] rfl) hp
def q_X5_unlike_38  (post : Int32 → Mem → Prop) (px : String → Mem → Prop)  (σ : Mem) : Prop := (px "java/lang/IllegalArgumentException" (σ))
def q_X5_unlike_16  (post : Int32 → Mem → Prop) (px : String → Mem → Prop)  (σ : Mem) : Prop := (px "java/lang/IndexOutOfBoundsException" (σ))
def q_X5_unlike  (post : Int32 → Mem → Prop) (px : String → Mem → Prop) (p1 : Int32) (p2 : Int32) (p3 : Int32) (σ : Mem) : Prop := (q_X5_isField (fun (r1 : Int32) (σ2 : Mem) => ((r1 = 0 → (q_X5_unlike_16 post px) (σ2)) ∧ (¬ (r1 = 0) → (q_X5_isField (fun (r4 : Int32) (σ5 : Mem) => ((r4 ≠ 0 → (q_X5_isTeam (fun (r7 : Int32) (σ8 : Mem) => ((r7 = 0 → (q_X5_unlike_38 post px) (σ5)) ∧ (¬ (r7 = 0) → ((p2 ≠ p3 → ((((σ5) 1 10) < 30 → (q_X5_tell (fun (r12 : Int32) (σ13 : Mem) => post r12 (σ13)) 4 p1 p2 p3 0 (σ5))) ∧ (¬ (((σ5) 1 10) < 30) → (px "java/lang/IllegalStateException" (σ5))))) ∧ (p2 = p3 → (q_X5_unlike_38 post px) (σ5)))))) p1 (σ5))) ∧ (r4 = 0 → (q_X5_unlike_16 post px) (σ5)))) p3 (σ2))))) p2 (σ))
abbrev rm_X5_unlike : Room := { frames := 20, cells := 1, slots := 6, locals := 933 }
abbrev wq_X5_unlike : List Cond := Cond.code yX5_unlike cX5_unlike 4 (some .int) :: wALL
set_option maxHeartbeats 4000000 in
set_option maxRecDepth 100000 in
theorem c_X5_unlike (l : Launch) (hflag : l.stackTraces = false) (D : va_G) (k ad : Nat → Nat) {sz : Nat} {σ : Mem} {p1 : Int32} {p2 : Int32} {p3 : Int32} {post : Int32 → Mem → Prop} {px : String → Mem → Prop} (hp : q_X5_unlike post px p1 p2 p3 σ) : vx_Met l yX5_unlike wq_X5_unlike rm_X5_unlike (va_Pc [.ref (ad 0), .int p1, .int p2, .int p3] (Pw D k (W5 k ad (σ)) sz)) (va_Qi post (fun u => Bw D (W5 k ad (σ)) sz (W5 k ad u)) (va_A (W5 k ad (σ)) sz)) (vx_X (fun z : String × Mem => px z.1 z.2) (fun E z t => E = z.1 ∧ Bw D (W5 k ad (σ)) sz (W5 k ad z.2) t) (va_A (W5 k ad (σ)) sz)) 1 6 (va_A (W5 k ad (σ)) sz) := by
  refine fw_xi hflag (wf := fun u : Mem => W5 k ad u) (by decide) rfl (Nat.le_of_ble_eq_true rfl) ?_
  intro p e s m args below meth c A Q ls hC hP hD hl hret hthr
  obtain ⟨⟨hx, hb, hml, hown, hts⟩, hG, hA⟩ := id hC
  have hK := hG.1
  have hS : va_S A s.heap s.heap [] := va_S.rf
  have hin_X5 : ∀ w ∈ u_ws RX5 TX5 4, w ∈ wq_X5_unlike := fun w h => List.mem_cons_of_mem _ (iU_X5 w h)
  have hf_10 := hts _ (List.mem_cons_of_mem _ A_183)
  have hin_X2 : ∀ w ∈ u_ws RX2 TX2 11, w ∈ wq_X5_unlike := fun w h => List.mem_cons_of_mem _ (iU_X2 w h)
  have hf_72 := hts _ (List.mem_cons_of_mem _ A_219)
  have hl : lv_has ls 4 [(0, .ref (ad 0)), (1, .int p1), (2, .int p2), (3, .int p3)] := hl
  have hown : s.vm.findClass RX5 = some m.cls := hown
  unfold q_X5_unlike at hp
  have B_38 : ∀  (σ : Mem) (H : Heap) (locs : List Loc) (ls : Array Slot), va_P D vwCl (W5 k ad (σ)) H → va_D A (W5 k ad (σ)) → va_S A s.heap H locs → lv_has ls 4 [] → (q_X5_unlike_38 post px)  σ → W p l e rm_X5_unlike s m args below meth c H locs 0 0 Q (F0 m 38 ls []) := by
    intro  σ H locs ls hP hD hS hl hp
    unfold q_X5_unlike_38 at hp
    exact hthr "java/lang/IllegalArgumentException" "team is not 0 to 3, or both are the same" ["java/lang/RuntimeException", "java/lang/Exception"] 40 88 44 (k (1000 + 88)) (σ) _ _ _ _ _ _ _ (by decide +kernel) (by decide +kernel) (hts _ (List.mem_cons_of_mem _ A_198)) (hts _ (List.mem_cons_of_mem _ A_199)) (GG.sx hG 20 rfl) (hat_44 (fun w h => hts w (List.mem_cons_of_mem _ h)) (GG.nc hG (q := ("java/lang/IllegalArgumentException", "java/lang/IllegalArgumentException")) 4 rfl) (GG.nd hG)) vO_44 hl.1 dX5_unlike_38 dX5_unlike_41 dX5_unlike_42 dX5_unlike_44 dX5_unlike_47 (Nat.le_of_ble_eq_true rfl) (Nat.le_of_ble_eq_true rfl) (Nat.le_of_ble_eq_true rfl) (Nat.le_of_ble_eq_true rfl) hP hD hS (Nat.le_of_ble_eq_true rfl) (Nat.le_of_ble_eq_true rfl) hp
  have B_16 : ∀  (σ : Mem) (H : Heap) (locs : List Loc) (ls : Array Slot), va_P D vwCl (W5 k ad (σ)) H → va_D A (W5 k ad (σ)) → va_S A s.heap H locs → lv_has ls 4 [] → (q_X5_unlike_16 post px)  σ → W p l e rm_X5_unlike s m args below meth c H locs 0 0 Q (F0 m 16 ls []) := by
    intro  σ H locs ls hP hD hS hl hp
    unfold q_X5_unlike_16 at hp
    exact hthr "java/lang/IndexOutOfBoundsException" "no such field" ["java/lang/RuntimeException", "java/lang/Exception"] 65 67 69 (k (1000 + 67)) (σ) _ _ _ _ _ _ _ (by decide +kernel) (by decide +kernel) (hts _ (List.mem_cons_of_mem _ A_217)) (hts _ (List.mem_cons_of_mem _ A_218)) (GG.sx hG 15 rfl) (hat_69 (fun w h => hts w (List.mem_cons_of_mem _ h)) (GG.nc hG (q := ("java/lang/IndexOutOfBoundsException", "java/lang/IndexOutOfBoundsException")) 6 rfl) (GG.nd hG)) vO_69 hl.1 dX5_unlike_16 dX5_unlike_19 dX5_unlike_20 dX5_unlike_22 dX5_unlike_25 (Nat.le_of_ble_eq_true rfl) (Nat.le_of_ble_eq_true rfl) (Nat.le_of_ble_eq_true rfl) (Nat.le_of_ble_eq_true rfl) hP hD hS (Nat.le_of_ble_eq_true rfl) (Nat.le_of_ble_eq_true rfl) hp
  refine lv_aload_n hx hb dX5_unlike_0 rfl (lv_at hl 0 rfl) ?_
  refine lv_iload_n hx hb dX5_unlike_1 rfl (lv_at hl 2 rfl) ?_
  refine fw_ciV (As := [.int p2]) (rest := []) hC (c_X5_isField l D k ad hp) (cwV 1 hts (gA_V A_220 A_221 A_222 A_25 A_212) rfl rfl rfl (by decide +kernel) ⟨Nat.le_of_ble_eq_true rfl, Nat.le_of_ble_eq_true rfl⟩) (va_recv hK hP (ci := 9) (q0 := 0) rfl rfl) rfl hl.1 rfl (Nat.le_of_ble_eq_true rfl) dX5_unlike_2 ⟨Nat.le_of_ble_eq_true rfl, Nat.le_of_ble_eq_true rfl⟩ hP hD hS Jn.same (fun r1 σ2 H locs hP hD hS hp => ?_)
  have hP : va_P D vwCl (W5 k ad (σ2)) H := hP
  have hD : va_D A (W5 k ad (σ2)) := hD
  refine lv_if_eq (tgt := 16) hx hb dX5_unlike_5 (by decide) (fun c3 => ?_) (fun c3 => ?_)
  · have hp := hp.1 c3
    exact B_16  (σ2) _ _ _  hP hD hS (lv_sub hl [] rfl) hp
  · have hp := hp.2 c3
    refine lv_aload_n hx hb dX5_unlike_8 rfl (lv_at hl 0 rfl) ?_
    refine lv_iload_n hx hb dX5_unlike_9 rfl (lv_at hl 3 rfl) ?_
    refine fw_ciV (As := [.int p3]) (rest := []) hC (c_X5_isField l D k ad hp) (cwV 1 hts (gA_V A_220 A_221 A_222 A_25 A_212) rfl rfl rfl (by decide +kernel) ⟨Nat.le_of_ble_eq_true rfl, Nat.le_of_ble_eq_true rfl⟩) (va_recv hK hP (ci := 9) (q0 := 0) rfl rfl) rfl hl.1 rfl (Nat.le_of_ble_eq_true rfl) dX5_unlike_10 ⟨Nat.le_of_ble_eq_true rfl, Nat.le_of_ble_eq_true rfl⟩ hP hD hS Jn.same (fun r4 σ5 H locs hP hD hS hp => ?_)
    have hP : va_P D vwCl (W5 k ad (σ5)) H := hP
    have hD : va_D A (W5 k ad (σ5)) := hD
    refine lv_if_ne (tgt := 26) hx hb dX5_unlike_13 (by decide) (fun c6 => ?_) (fun c6 => ?_)
    · have hp := hp.1 c6
      refine lv_iload_n hx hb dX5_unlike_26 rfl (lv_at hl 1 rfl) ?_
      refine fw_ciS (As := [.int p1]) (rest := []) hC (c_X5_isTeam l D k hp) (va_cwS 1 hts (gA_S A_203 A_204 A_25 A_197) rfl rfl rfl (by decide +kernel) ⟨Nat.le_of_ble_eq_true rfl, Nat.le_of_ble_eq_true rfl⟩) rfl hl.1 rfl (Nat.le_of_ble_eq_true rfl) dX5_unlike_27 ⟨Nat.le_of_ble_eq_true rfl, Nat.le_of_ble_eq_true rfl⟩ P_nil D_nil hS (Jn.pure (w0 := fun _ : Mem => []) hP hD) (fun r7 σ8 H locs hP hD hS hp => ?_)
      have hP : va_P D vwCl (W5 k ad (σ5)) H := hP
      have hD : va_D A (W5 k ad (σ5)) := hD
      refine lv_if_eq (tgt := 38) hx hb dX5_unlike_30 (by decide) (fun c9 => ?_) (fun c9 => ?_)
      · have hp := hp.1 c9
        exact B_38  (σ5) _ _ _  hP hD hS (lv_sub hl [] rfl) hp
      · have hp := hp.2 c9
        refine lv_iload_n hx hb dX5_unlike_33 rfl (lv_at hl 2 rfl) ?_
        refine lv_iload_n hx hb dX5_unlike_34 rfl (lv_at hl 3 rfl) ?_
        refine lv_icmp_ne (tgt := 48) hx hb dX5_unlike_35 (by decide) (fun c10 => ?_) (fun c10 => ?_)
        · have hp := hp.1 c10
          refine lv_aload_n hx hb dX5_unlike_48 rfl (lv_at hl 0 rfl) ?_
          refine va_get (D := D) (ci := 9) (C := RX5) (T := TX5) (N := 4) hx hb hts hin_X5 hown hK hP 0 rfl rfl 0 (by decide) hf_10 (fun _ h9 => h9) rfl dX5_unlike_49 ?_
          refine va_get (D := D) (ci := 6) (C := RX2) (T := TX2) (N := 11) hx hb hts hin_X2 hown hK hP 1 rfl rfl 10 (by decide) hf_72 (fun _ h9 => h9) rfl dX5_unlike_52 ?_
          refine lv_bipush (v := 30) hx hb dX5_unlike_55 (by decide) ?_
          refine lv_icmp_lt (tgt := 70) hx hb dX5_unlike_57 (by decide) (fun c11 => ?_) (fun c11 => ?_)
          · have hp := hp.1 c11
            refine lv_aload_n hx hb dX5_unlike_70 rfl (lv_at hl 0 rfl) ?_
            refine lv_iconst (v := 4) hx hb dX5_unlike_71 (by decide) ?_
            refine lv_iload_n hx hb dX5_unlike_72 rfl (lv_at hl 1 rfl) ?_
            refine lv_iload_n hx hb dX5_unlike_73 rfl (lv_at hl 2 rfl) ?_
            refine lv_iload_n hx hb dX5_unlike_74 rfl (lv_at hl 3 rfl) ?_
            refine lv_iconst (v := 0) hx hb dX5_unlike_75 (by decide) ?_
            refine fw_ciV (As := [.int 4, .int p1, .int p2, .int p3, .int 0]) (rest := []) hC (c_X5_tell l D k ad hp) (cwV 5 hts (gA_V A_223 A_224 A_225 A_25 A_216) rfl rfl rfl (by decide +kernel) ⟨Nat.le_of_ble_eq_true rfl, Nat.le_of_ble_eq_true rfl⟩) (va_recv hK hP (ci := 9) (q0 := 0) rfl rfl) rfl hl.1 rfl (Nat.le_of_ble_eq_true rfl) dX5_unlike_76 ⟨Nat.le_of_ble_eq_true rfl, Nat.le_of_ble_eq_true rfl⟩ hP hD hS Jn.same (fun r12 σ13 H locs hP hD hS hp => ?_)
            have hP : va_P D vwCl (W5 k ad (σ13)) H := hP
            have hD : va_D A (W5 k ad (σ13)) := hD
            exact hret r12 (σ13) _ _ _ _ _ _ dX5_unlike_79 rfl hP hD hS (Nat.le_of_ble_eq_true rfl) (Nat.le_of_ble_eq_true rfl) hp
          · have hp := hp.2 c11
            exact hthr "java/lang/IllegalStateException" "there are 30 lines" ["java/lang/RuntimeException", "java/lang/Exception"] 50 75 54 (k (1000 + 75)) (σ5) _ _ _ _ _ _ _ (by decide +kernel) (by decide +kernel) (hts _ (List.mem_cons_of_mem _ A_200)) (hts _ (List.mem_cons_of_mem _ A_201)) (GG.sx hG 17 rfl) (hat_54 (fun w h => hts w (List.mem_cons_of_mem _ h)) (GG.nc hG (q := ("java/lang/IllegalStateException", "java/lang/IllegalStateException")) 5 rfl) (GG.nd hG)) vO_54 hl.1 dX5_unlike_60 dX5_unlike_63 dX5_unlike_64 dX5_unlike_66 dX5_unlike_69 (Nat.le_of_ble_eq_true rfl) (Nat.le_of_ble_eq_true rfl) (Nat.le_of_ble_eq_true rfl) (Nat.le_of_ble_eq_true rfl) hP hD hS (Nat.le_of_ble_eq_true rfl) (Nat.le_of_ble_eq_true rfl) hp
        · have hp := hp.2 c10
          exact B_38  (σ5) _ _ _  hP hD hS (lv_sub hl [] rfl) hp
    · have hp := hp.2 c6
      exact B_16  (σ5) _ _ _  hP hD hS (lv_sub hl [] rfl) hp
def q_X5_preset_44  (post : Int32 → Mem → Prop) (px : String → Mem → Prop)  (σ : Mem) : Prop := (px "java/lang/IllegalArgumentException" (σ))
def q_X5_preset  (post : Int32 → Mem → Prop) (px : String → Mem → Prop) (p1 : Int32) (p2 : Int32) (p3 : Int32) (p4 : Int32) (σ : Mem) : Prop := (q_X5_isField (fun (r1 : Int32) (σ2 : Mem) => ((r1 ≠ 0 → (q_X5_isTeam (fun (r4 : Int32) (σ5 : Mem) => ((r4 = 0 → (q_X5_preset_44 post px) (σ2)) ∧ (¬ (r4 = 0) → (q_X5_isNumber (fun (r7 : Int32) (σ8 : Mem) => ((r7 = 0 → (q_X5_preset_44 post px) (σ2)) ∧ (¬ (r7 = 0) → ((p4 < 0 → (q_X5_preset_44 post px) (σ2)) ∧ (¬ (p4 < 0) → ((p4 ≤ 9 → ((((σ2) 1 10) < 30 → (q_X5_tell (fun (r13 : Int32) (σ14 : Mem) => post r13 (σ14)) 5 p1 p2 p3 p4 (σ2))) ∧ (¬ (((σ2) 1 10) < 30) → (px "java/lang/IllegalStateException" (σ2))))) ∧ (¬ (p4 ≤ 9) → (q_X5_preset_44 post px) (σ2)))))))) p3 (σ2))))) p1 (σ2))) ∧ (r1 = 0 → (px "java/lang/IndexOutOfBoundsException" (σ2))))) p2 (σ))
abbrev rm_X5_preset : Room := { frames := 20, cells := 1, slots := 6, locals := 933 }
abbrev wq_X5_preset : List Cond := Cond.code yX5_preset cX5_preset 5 (some .int) :: wALL
set_option maxHeartbeats 4000000 in
set_option maxRecDepth 100000 in
theorem c_X5_preset (l : Launch) (hflag : l.stackTraces = false) (D : va_G) (k ad : Nat → Nat) {sz : Nat} {σ : Mem} {p1 : Int32} {p2 : Int32} {p3 : Int32} {p4 : Int32} {post : Int32 → Mem → Prop} {px : String → Mem → Prop} (hp : q_X5_preset post px p1 p2 p3 p4 σ) : vx_Met l yX5_preset wq_X5_preset rm_X5_preset (va_Pc [.ref (ad 0), .int p1, .int p2, .int p3, .int p4] (Pw D k (W5 k ad (σ)) sz)) (va_Qi post (fun u => Bw D (W5 k ad (σ)) sz (W5 k ad u)) (va_A (W5 k ad (σ)) sz)) (vx_X (fun z : String × Mem => px z.1 z.2) (fun E z t => E = z.1 ∧ Bw D (W5 k ad (σ)) sz (W5 k ad z.2) t) (va_A (W5 k ad (σ)) sz)) 1 6 (va_A (W5 k ad (σ)) sz) := by
  refine fw_xi hflag (wf := fun u : Mem => W5 k ad u) (by decide) rfl (Nat.le_of_ble_eq_true rfl) ?_
  intro p e s m args below meth c A Q ls hC hP hD hl hret hthr
  obtain ⟨⟨hx, hb, hml, hown, hts⟩, hG, hA⟩ := id hC
  have hK := hG.1
  have hS : va_S A s.heap s.heap [] := va_S.rf
  have hin_X5 : ∀ w ∈ u_ws RX5 TX5 4, w ∈ wq_X5_preset := fun w h => List.mem_cons_of_mem _ (iU_X5 w h)
  have hf_10 := hts _ (List.mem_cons_of_mem _ A_183)
  have hin_X2 : ∀ w ∈ u_ws RX2 TX2 11, w ∈ wq_X5_preset := fun w h => List.mem_cons_of_mem _ (iU_X2 w h)
  have hf_72 := hts _ (List.mem_cons_of_mem _ A_219)
  have hl : lv_has ls 5 [(0, .ref (ad 0)), (1, .int p1), (2, .int p2), (3, .int p3), (4, .int p4)] := hl
  have hown : s.vm.findClass RX5 = some m.cls := hown
  unfold q_X5_preset at hp
  have B_44 : ∀  (σ : Mem) (H : Heap) (locs : List Loc) (ls : Array Slot), va_P D vwCl (W5 k ad (σ)) H → va_D A (W5 k ad (σ)) → va_S A s.heap H locs → lv_has ls 5 [] → (q_X5_preset_44 post px)  σ → W p l e rm_X5_preset s m args below meth c H locs 0 0 Q (F0 m 44 ls []) := by
    intro  σ H locs ls hP hD hS hl hp
    unfold q_X5_preset_44 at hp
    exact hthr "java/lang/IllegalArgumentException" "team is not 0 to 3, number not 0 to 7, or rank not 0 to 9" ["java/lang/RuntimeException", "java/lang/Exception"] 40 90 44 (k (1000 + 90)) (σ) _ _ _ _ _ _ _ (by decide +kernel) (by decide +kernel) (hts _ (List.mem_cons_of_mem _ A_198)) (hts _ (List.mem_cons_of_mem _ A_199)) (GG.sx hG 21 rfl) (hat_44 (fun w h => hts w (List.mem_cons_of_mem _ h)) (GG.nc hG (q := ("java/lang/IllegalArgumentException", "java/lang/IllegalArgumentException")) 4 rfl) (GG.nd hG)) vO_44 hl.1 dX5_preset_44 dX5_preset_47 dX5_preset_48 dX5_preset_50 dX5_preset_53 (Nat.le_of_ble_eq_true rfl) (Nat.le_of_ble_eq_true rfl) (Nat.le_of_ble_eq_true rfl) (Nat.le_of_ble_eq_true rfl) hP hD hS (Nat.le_of_ble_eq_true rfl) (Nat.le_of_ble_eq_true rfl) hp
  refine lv_aload_n hx hb dX5_preset_0 rfl (lv_at hl 0 rfl) ?_
  refine lv_iload_n hx hb dX5_preset_1 rfl (lv_at hl 2 rfl) ?_
  refine fw_ciV (As := [.int p2]) (rest := []) hC (c_X5_isField l D k ad hp) (cwV 1 hts (gA_V A_220 A_221 A_222 A_25 A_212) rfl rfl rfl (by decide +kernel) ⟨Nat.le_of_ble_eq_true rfl, Nat.le_of_ble_eq_true rfl⟩) (va_recv hK hP (ci := 9) (q0 := 0) rfl rfl) rfl hl.1 rfl (Nat.le_of_ble_eq_true rfl) dX5_preset_2 ⟨Nat.le_of_ble_eq_true rfl, Nat.le_of_ble_eq_true rfl⟩ hP hD hS Jn.same (fun r1 σ2 H locs hP hD hS hp => ?_)
  have hP : va_P D vwCl (W5 k ad (σ2)) H := hP
  have hD : va_D A (W5 k ad (σ2)) := hD
  refine lv_if_ne (tgt := 18) hx hb dX5_preset_5 (by decide) (fun c3 => ?_) (fun c3 => ?_)
  · have hp := hp.1 c3
    refine lv_iload_n hx hb dX5_preset_18 rfl (lv_at hl 1 rfl) ?_
    refine fw_ciS (As := [.int p1]) (rest := []) hC (c_X5_isTeam l D k hp) (va_cwS 1 hts (gA_S A_203 A_204 A_25 A_197) rfl rfl rfl (by decide +kernel) ⟨Nat.le_of_ble_eq_true rfl, Nat.le_of_ble_eq_true rfl⟩) rfl hl.1 rfl (Nat.le_of_ble_eq_true rfl) dX5_preset_19 ⟨Nat.le_of_ble_eq_true rfl, Nat.le_of_ble_eq_true rfl⟩ P_nil D_nil hS (Jn.pure (w0 := fun _ : Mem => []) hP hD) (fun r4 σ5 H locs hP hD hS hp => ?_)
    have hP : va_P D vwCl (W5 k ad (σ2)) H := hP
    have hD : va_D A (W5 k ad (σ2)) := hD
    refine lv_if_eq (tgt := 44) hx hb dX5_preset_22 (by decide) (fun c6 => ?_) (fun c6 => ?_)
    · have hp := hp.1 c6
      exact B_44  (σ2) _ _ _  hP hD hS (lv_sub hl [] rfl) hp
    · have hp := hp.2 c6
      refine lv_iload_n hx hb dX5_preset_25 rfl (lv_at hl 3 rfl) ?_
      refine fw_ciS (As := [.int p3]) (rest := []) hC (c_X5_isNumber l D k hp) (va_cwS 1 hts (gA_S A_228 A_229 A_25 A_227) rfl rfl rfl (by decide +kernel) ⟨Nat.le_of_ble_eq_true rfl, Nat.le_of_ble_eq_true rfl⟩) rfl hl.1 rfl (Nat.le_of_ble_eq_true rfl) dX5_preset_26 ⟨Nat.le_of_ble_eq_true rfl, Nat.le_of_ble_eq_true rfl⟩ P_nil D_nil hS (Jn.pure (w0 := fun _ : Mem => []) hP hD) (fun r7 σ8 H locs hP hD hS hp => ?_)
      have hP : va_P D vwCl (W5 k ad (σ2)) H := hP
      have hD : va_D A (W5 k ad (σ2)) := hD
      refine lv_if_eq (tgt := 44) hx hb dX5_preset_29 (by decide) (fun c9 => ?_) (fun c9 => ?_)
      · have hp := hp.1 c9
        exact B_44  (σ2) _ _ _  hP hD hS (lv_sub hl [] rfl) hp
      · have hp := hp.2 c9
        refine lv_iload hx hb dX5_preset_32 (lv_at hl 4 rfl) ?_
        refine lv_if_lt (tgt := 44) hx hb dX5_preset_34 (by decide) (fun c10 => ?_) (fun c10 => ?_)
        · have hp := hp.1 c10
          exact B_44  (σ2) _ _ _  hP hD hS (lv_sub hl [] rfl) hp
        · have hp := hp.2 c10
          refine lv_iload hx hb dX5_preset_37 (lv_at hl 4 rfl) ?_
          refine lv_bipush (v := 9) hx hb dX5_preset_39 (by decide) ?_
          refine lv_icmp_le (tgt := 54) hx hb dX5_preset_41 (by decide) (fun c11 => ?_) (fun c11 => ?_)
          · have hp := hp.1 c11
            refine lv_aload_n hx hb dX5_preset_54 rfl (lv_at hl 0 rfl) ?_
            refine va_get (D := D) (ci := 9) (C := RX5) (T := TX5) (N := 4) hx hb hts hin_X5 hown hK hP 0 rfl rfl 0 (by decide) hf_10 (fun _ h9 => h9) rfl dX5_preset_55 ?_
            refine va_get (D := D) (ci := 6) (C := RX2) (T := TX2) (N := 11) hx hb hts hin_X2 hown hK hP 1 rfl rfl 10 (by decide) hf_72 (fun _ h9 => h9) rfl dX5_preset_58 ?_
            refine lv_bipush (v := 30) hx hb dX5_preset_61 (by decide) ?_
            refine lv_icmp_lt (tgt := 76) hx hb dX5_preset_63 (by decide) (fun c12 => ?_) (fun c12 => ?_)
            · have hp := hp.1 c12
              refine lv_aload_n hx hb dX5_preset_76 rfl (lv_at hl 0 rfl) ?_
              refine lv_iconst (v := 5) hx hb dX5_preset_77 (by decide) ?_
              refine lv_iload_n hx hb dX5_preset_78 rfl (lv_at hl 1 rfl) ?_
              refine lv_iload_n hx hb dX5_preset_79 rfl (lv_at hl 2 rfl) ?_
              refine lv_iload_n hx hb dX5_preset_80 rfl (lv_at hl 3 rfl) ?_
              refine lv_iload hx hb dX5_preset_81 (lv_at hl 4 rfl) ?_
              refine fw_ciV (As := [.int 5, .int p1, .int p2, .int p3, .int p4]) (rest := []) hC (c_X5_tell l D k ad hp) (cwV 5 hts (gA_V A_223 A_224 A_225 A_25 A_216) rfl rfl rfl (by decide +kernel) ⟨Nat.le_of_ble_eq_true rfl, Nat.le_of_ble_eq_true rfl⟩) (va_recv hK hP (ci := 9) (q0 := 0) rfl rfl) rfl hl.1 rfl (Nat.le_of_ble_eq_true rfl) dX5_preset_83 ⟨Nat.le_of_ble_eq_true rfl, Nat.le_of_ble_eq_true rfl⟩ hP hD hS Jn.same (fun r13 σ14 H locs hP hD hS hp => ?_)
              have hP : va_P D vwCl (W5 k ad (σ14)) H := hP
              have hD : va_D A (W5 k ad (σ14)) := hD
              exact hret r13 (σ14) _ _ _ _ _ _ dX5_preset_86 rfl hP hD hS (Nat.le_of_ble_eq_true rfl) (Nat.le_of_ble_eq_true rfl) hp
            · have hp := hp.2 c12
              exact hthr "java/lang/IllegalStateException" "there are 30 lines" ["java/lang/RuntimeException", "java/lang/Exception"] 50 75 54 (k (1000 + 75)) (σ2) _ _ _ _ _ _ _ (by decide +kernel) (by decide +kernel) (hts _ (List.mem_cons_of_mem _ A_200)) (hts _ (List.mem_cons_of_mem _ A_201)) (GG.sx hG 17 rfl) (hat_54 (fun w h => hts w (List.mem_cons_of_mem _ h)) (GG.nc hG (q := ("java/lang/IllegalStateException", "java/lang/IllegalStateException")) 5 rfl) (GG.nd hG)) vO_54 hl.1 dX5_preset_66 dX5_preset_69 dX5_preset_70 dX5_preset_72 dX5_preset_75 (Nat.le_of_ble_eq_true rfl) (Nat.le_of_ble_eq_true rfl) (Nat.le_of_ble_eq_true rfl) (Nat.le_of_ble_eq_true rfl) hP hD hS (Nat.le_of_ble_eq_true rfl) (Nat.le_of_ble_eq_true rfl) hp
          · have hp := hp.2 c11
            exact B_44  (σ2) _ _ _  hP hD hS (lv_sub hl [] rfl) hp
  · have hp := hp.2 c3
    exact hthr "java/lang/IndexOutOfBoundsException" "no such field" ["java/lang/RuntimeException", "java/lang/Exception"] 65 67 69 (k (1000 + 67)) (σ2) _ _ _ _ _ _ _ (by decide +kernel) (by decide +kernel) (hts _ (List.mem_cons_of_mem _ A_217)) (hts _ (List.mem_cons_of_mem _ A_218)) (GG.sx hG 15 rfl) (hat_69 (fun w h => hts w (List.mem_cons_of_mem _ h)) (GG.nc hG (q := ("java/lang/IndexOutOfBoundsException", "java/lang/IndexOutOfBoundsException")) 6 rfl) (GG.nd hG)) vO_69 hl.1 dX5_preset_8 dX5_preset_11 dX5_preset_12 dX5_preset_14 dX5_preset_17 (Nat.le_of_ble_eq_true rfl) (Nat.le_of_ble_eq_true rfl) (Nat.le_of_ble_eq_true rfl) (Nat.le_of_ble_eq_true rfl) hP hD hS (Nat.le_of_ble_eq_true rfl) (Nat.le_of_ble_eq_true rfl) hp
def q_X5_approve  (post : Int32 → Mem → Prop) (px : String → Mem → Prop) (p1 : Int32) (p2 : Int32) (σ : Mem) : Prop := (q_X5_isLine (fun (r1 : Int32) (σ2 : Mem) => ((r1 ≠ 0 → (vp_in p1 30 ∧ (∀ σ5 : Mem, σ5 = mst (σ2) 9 p1.toNatClampNeg (vp_nar .boolean p2) → (q_X4_renew (fun (σ7 : Mem) => (q_X2_counts (fun (r8 : Int32) (σ9 : Mem) => (bz r8 ∧ post r8 (σ9))) p1 (σ7))) (σ5))))) ∧ (r1 = 0 → (px "java/lang/IndexOutOfBoundsException" (σ2))))) p1 (σ))
abbrev rm_X5_approve : Room := { frames := 19, cells := 1, slots := 6, locals := 907 }
abbrev wq_X5_approve : List Cond := Cond.code yX5_approve cX5_approve 3 (some .boolean) :: wALL
set_option maxHeartbeats 4000000 in
set_option maxRecDepth 100000 in
theorem c_X5_approve (l : Launch) (hflag : l.stackTraces = false) (D : va_G) (k ad : Nat → Nat) {sz : Nat} {σ : Mem} {p1 : Int32} {p2 : Int32} {post : Int32 → Mem → Prop} {px : String → Mem → Prop} (hp : q_X5_approve post px p1 p2 σ) : vx_Met l yX5_approve wq_X5_approve rm_X5_approve (va_Pc [.ref (ad 0), .int p1, .int p2] (Pw D k (W5 k ad (σ)) sz)) (va_Qi post (fun u => Bw D (W5 k ad (σ)) sz (W5 k ad u)) (va_A (W5 k ad (σ)) sz)) (vx_X (fun z : String × Mem => px z.1 z.2) (fun E z t => E = z.1 ∧ Bw D (W5 k ad (σ)) sz (W5 k ad z.2) t) (va_A (W5 k ad (σ)) sz)) 1 6 (va_A (W5 k ad (σ)) sz) := by
  refine fw_xi hflag (wf := fun u : Mem => W5 k ad u) (by decide) rfl (Nat.le_of_ble_eq_true rfl) ?_
  intro p e s m args below meth c A Q ls hC hP hD hl hret hthr
  obtain ⟨⟨hx, hb, hml, hown, hts⟩, hG, hA⟩ := id hC
  have hK := hG.1
  have hS : va_S A s.heap s.heap [] := va_S.rf
  have hin_X5 : ∀ w ∈ u_ws RX5 TX5 4, w ∈ wq_X5_approve := fun w h => List.mem_cons_of_mem _ (iU_X5 w h)
  have hf_10 := hts _ (List.mem_cons_of_mem _ A_183)
  have hin_X2 : ∀ w ∈ u_ws RX2 TX2 11, w ∈ wq_X5_approve := fun w h => List.mem_cons_of_mem _ (iU_X2 w h)
  have hf_97 := hts _ (List.mem_cons_of_mem _ A_235)
  have hf_21 := hts _ (List.mem_cons_of_mem _ A_186)
  have hl : lv_has ls 3 [(0, .ref (ad 0)), (1, .int p1), (2, .int p2)] := hl
  have hown : s.vm.findClass RX5 = some m.cls := hown
  unfold q_X5_approve at hp
  refine lv_aload_n hx hb dX5_approve_0 rfl (lv_at hl 0 rfl) ?_
  refine lv_iload_n hx hb dX5_approve_1 rfl (lv_at hl 1 rfl) ?_
  refine fw_ciV (As := [.int p1]) (rest := []) hC (c_X5_isLine l D k ad hp) (cwV 1 hts (gA_V A_236 A_237 A_238 A_25 A_234) rfl rfl rfl (by decide +kernel) ⟨Nat.le_of_ble_eq_true rfl, Nat.le_of_ble_eq_true rfl⟩) (va_recv hK hP (ci := 9) (q0 := 0) rfl rfl) rfl hl.1 rfl (Nat.le_of_ble_eq_true rfl) dX5_approve_2 ⟨Nat.le_of_ble_eq_true rfl, Nat.le_of_ble_eq_true rfl⟩ hP hD hS Jn.same (fun r1 σ2 H locs hP hD hS hp => ?_)
  have hP : va_P D vwCl (W5 k ad (σ2)) H := hP
  have hD : va_D A (W5 k ad (σ2)) := hD
  refine lv_if_ne (tgt := 18) hx hb dX5_approve_5 (by decide) (fun c3 => ?_) (fun c3 => ?_)
  · have hp := hp.1 c3
    refine lv_aload_n hx hb dX5_approve_18 rfl (lv_at hl 0 rfl) ?_
    refine va_get (D := D) (ci := 9) (C := RX5) (T := TX5) (N := 4) hx hb hts hin_X5 hown hK hP 0 rfl rfl 0 (by decide) hf_10 (fun _ h9 => h9) rfl dX5_approve_19 ?_
    refine va_get (D := D) (ci := 6) (C := RX2) (T := TX2) (N := 11) hx hb hts hin_X2 hown hK hP 1 rfl rfl 7 (by decide) hf_97 (fun _ h9 => h9) rfl dX5_approve_22 ?_
    refine lv_iload_n hx hb dX5_approve_25 rfl (lv_at hl 1 rfl) ?_
    refine lv_iload_n hx hb dX5_approve_26 rfl (lv_at hl 2 rfl) ?_
    obtain ⟨h4, hp⟩ := hp
    refine va_zast hx hb hK hP hD hS 9 1 rfl rfl h4 dX5_approve_27 (fun H locs hP hD hS => ?_)
    obtain ⟨σ5, eσ5⟩ : ∃ z : Mem, z = mst (σ2) 9 p1.toNatClampNeg (vp_nar .boolean p2) := ⟨_, rfl⟩
    have hp := hp σ5 eσ5
    have hP : va_P D vwCl (W5 k ad (σ5)) H := by rw [eσ5]; exact hP
    have hD : va_D A (W5 k ad (σ5)) := by rw [eσ5]; exact hD
    refine lv_aload_n hx hb dX5_approve_28 rfl (lv_at hl 0 rfl) ?_
    refine va_get (D := D) (ci := 9) (C := RX5) (T := TX5) (N := 4) hx hb hts hin_X5 hown hK hP 0 rfl rfl 1 (by decide) hf_21 (fun _ h9 => h9) rfl dX5_approve_29 ?_
    refine fw_cvV (As := []) (rest := []) hC (c_X4_renew l D k ad hp) (cwV 0 hts (gA_V A_208 A_209 A_210 A_173 A_176) rfl rfl rfl (by decide +kernel) ⟨Nat.le_of_ble_eq_true rfl, Nat.le_of_ble_eq_true rfl⟩) (va_recv hK hP (ci := 8) (q0 := 11) rfl rfl) rfl hl.1 rfl (Nat.le_of_ble_eq_true rfl) dX5_approve_32 ⟨Nat.le_of_ble_eq_true rfl, Nat.le_of_ble_eq_true rfl⟩ hP hD hS Jn.same (fun σ7 H locs hP hD hS hp => ?_)
    have hP : va_P D vwCl (W5 k ad (σ7)) H := hP
    have hD : va_D A (W5 k ad (σ7)) := hD
    refine lv_aload_n hx hb dX5_approve_35 rfl (lv_at hl 0 rfl) ?_
    refine va_get (D := D) (ci := 9) (C := RX5) (T := TX5) (N := 4) hx hb hts hin_X5 hown hK hP 0 rfl rfl 0 (by decide) hf_10 (fun _ h9 => h9) rfl dX5_approve_36 ?_
    refine lv_iload_n hx hb dX5_approve_39 rfl (lv_at hl 1 rfl) ?_
    refine fw_ciV (As := [.int p1]) (rest := []) hC (c_X2_counts l D k ad hp) (cwV 1 hts (gA_V A_239 A_92 A_93 A_29 A_89) rfl rfl rfl (by decide +kernel) ⟨Nat.le_of_ble_eq_true rfl, Nat.le_of_ble_eq_true rfl⟩) (va_recv hK hP (ci := 6) (q0 := 1) rfl rfl) rfl hl.1 rfl (Nat.le_of_ble_eq_true rfl) dX5_approve_40 ⟨Nat.le_of_ble_eq_true rfl, Nat.le_of_ble_eq_true rfl⟩ hP hD hS Jn.same (fun r8 σ9 H locs hP hD hS hp => ?_)
    have hP : va_P D vwCl (W5 k ad (σ9)) H := hP
    have hD : va_D A (W5 k ad (σ9)) := hD
    exact hret r8 (σ9) _ _ _ _ _ _ dX5_approve_43 hp.1.1 hP hD hS (Nat.le_of_ble_eq_true rfl) (Nat.le_of_ble_eq_true rfl) hp.2
  · have hp := hp.2 c3
    exact hthr "java/lang/IndexOutOfBoundsException" "no such line" ["java/lang/RuntimeException", "java/lang/Exception"] 65 95 69 (k (1000 + 95)) (σ2) _ _ _ _ _ _ _ (by decide +kernel) (by decide +kernel) (hts _ (List.mem_cons_of_mem _ A_217)) (hts _ (List.mem_cons_of_mem _ A_218)) (GG.sx hG 22 rfl) (hat_69 (fun w h => hts w (List.mem_cons_of_mem _ h)) (GG.nc hG (q := ("java/lang/IndexOutOfBoundsException", "java/lang/IndexOutOfBoundsException")) 6 rfl) (GG.nd hG)) vO_69 hl.1 dX5_approve_8 dX5_approve_11 dX5_approve_12 dX5_approve_14 dX5_approve_17 (Nat.le_of_ble_eq_true rfl) (Nat.le_of_ble_eq_true rfl) (Nat.le_of_ble_eq_true rfl) (Nat.le_of_ble_eq_true rfl) hP hD hS (Nat.le_of_ble_eq_true rfl) (Nat.le_of_ble_eq_true rfl) hp
