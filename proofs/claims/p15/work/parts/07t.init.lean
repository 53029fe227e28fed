abbrev rm_X6_init : Room := { frames := 1, cells := 0, slots := 0, locals := 12 }
abbrev wq_X6_init : List Cond := Cond.code yX6_init cX6_init 1 none :: wALL
set_option maxHeartbeats 4000000 in
set_option maxRecDepth 100000 in
theorem c_X6_init (l : Launch) (D : va_G) (k : Nat → Nat) (h0 : Nat)  {sz : Nat} : Met l yX6_init wq_X6_init rm_X6_init (va_Pc [.ref h0] (Pw D k [(h0, .inr (10, [.long 0, .null]))] sz)) (va_Qv (fun _ : Nat → Nat => True) (fun u => Bw D [(h0, .inr (10, [.long 0, .null]))] sz [(h0, .inr (10, [.long 0, .null]))]) (va_A [(h0, .inr (10, [.long 0, .null]))] sz)) 0 0 (va_A [(h0, .inr (10, [.long 0, .null]))] sz) := by
  refine fw_v (wf := fun u : Nat → Nat => [(h0, .inr (10, [.long 0, .null]))]) (by decide) rfl (Nat.le_of_ble_eq_true rfl) ?_
  intro p e s m args below meth c A Q ls hC hP hD hl hmn hret
  obtain ⟨⟨hx, hb, hml, hown, hts⟩, hG, hA⟩ := id hC
  have hK := hG.1
  have hS : va_S A s.heap s.heap [] := va_S.rf
  have hl : lv_has ls 1 [(0, .ref h0)] := hl
  have hown : s.vm.findClass RX6 = some m.cls := hown
  refine lv_aload_n hx hb dX6_init_0 rfl (lv_at hl 0 rfl) ?_
  refine W.objInit hx hb hown (hts _ (List.mem_cons_of_mem _ A_562)) (hts _ (List.mem_cons_of_mem _ A_3)) (hts _ (List.mem_cons_of_mem _ A_4)) rfl (by rw [hml]; exact hl.1) rfl dX6_init_1 (Nat.le_of_ble_eq_true rfl) (Nat.le_of_ble_eq_true rfl) ?_
  refine W.eq (g2 := F0 m 4 ls []) rfl ?_
  exact hret (fun i => ([] : List Nat).getD i 0) _ _ _ _ _ _ dX6_init_4 hP hD hS (Nat.le_of_ble_eq_true rfl) (Nat.le_of_ble_eq_true rfl) trivial
abbrev rm_X7_init : Room := { frames := 1, cells := 0, slots := 0, locals := 12 }
abbrev wq_X7_init : List Cond := Cond.code yX7_init cX7_init 1 none :: wALL
set_option maxHeartbeats 4000000 in
set_option maxRecDepth 100000 in
theorem c_X7_init (l : Launch) (D : va_G) (k : Nat → Nat) (h0 : Nat)  {sz : Nat} : Met l yX7_init wq_X7_init rm_X7_init (va_Pc [.ref h0] (Pw D k [(h0, .inr (11, [.int 0, .int 0, .int 0, .int 0, .int 0, .int 0, .int 0]))] sz)) (va_Qv (fun _ : Nat → Nat => True) (fun u => Bw D [(h0, .inr (11, [.int 0, .int 0, .int 0, .int 0, .int 0, .int 0, .int 0]))] sz [(h0, .inr (11, [.int 0, .int 0, .int 0, .int 0, .int 0, .int 0, .int 0]))]) (va_A [(h0, .inr (11, [.int 0, .int 0, .int 0, .int 0, .int 0, .int 0, .int 0]))] sz)) 0 0 (va_A [(h0, .inr (11, [.int 0, .int 0, .int 0, .int 0, .int 0, .int 0, .int 0]))] sz) := by
  refine fw_v (wf := fun u : Nat → Nat => [(h0, .inr (11, [.int 0, .int 0, .int 0, .int 0, .int 0, .int 0, .int 0]))]) (by decide) rfl (Nat.le_of_ble_eq_true rfl) ?_
  intro p e s m args below meth c A Q ls hC hP hD hl hmn hret
  obtain ⟨⟨hx, hb, hml, hown, hts⟩, hG, hA⟩ := id hC
  have hK := hG.1
  have hS : va_S A s.heap s.heap [] := va_S.rf
  have hl : lv_has ls 1 [(0, .ref h0)] := hl
  have hown : s.vm.findClass RX7 = some m.cls := hown
  refine lv_aload_n hx hb dX7_init_0 rfl (lv_at hl 0 rfl) ?_
  refine W.objInit hx hb hown (hts _ (List.mem_cons_of_mem _ A_564)) (hts _ (List.mem_cons_of_mem _ A_3)) (hts _ (List.mem_cons_of_mem _ A_4)) rfl (by rw [hml]; exact hl.1) rfl dX7_init_1 (Nat.le_of_ble_eq_true rfl) (Nat.le_of_ble_eq_true rfl) ?_
  refine W.eq (g2 := F0 m 4 ls []) rfl ?_
  exact hret (fun i => ([] : List Nat).getD i 0) _ _ _ _ _ _ dX7_init_4 hP hD hS (Nat.le_of_ble_eq_true rfl) (Nat.le_of_ble_eq_true rfl) trivial
abbrev rm_X2_init : Room := { frames := 1, cells := 9, slots := 220, locals := 12 }
abbrev wq_X2_init : List Cond := Cond.code yX2_init cX2_init 1 none :: wALL
set_option maxHeartbeats 4000000 in
set_option maxRecDepth 100000 in
theorem c_X2_init (l : Launch) (D : va_G) (k : Nat → Nat) (h0 : Nat)  {sz : Nat} : Met l yX2_init wq_X2_init rm_X2_init (va_Pc [.ref h0] (Pw D k [(h0, .inr (6, [.null, .null, .null, .null, .null, .null, .null, .null, .null, .int 0, .int 0]))] sz)) (va_Qv (fun _ : Nat → Nat => True) (fun u => Bw D [(h0, .inr (6, [.null, .null, .null, .null, .null, .null, .null, .null, .null, .int 0, .int 0]))] sz [(h0, .inr (6, [.ref (u 0), .ref (u 1), .ref (u 2), .ref (u 3), .ref (u 4), .ref (u 5), .ref (u 6), .ref (u 7), .ref (u 8), .int 0, .int 0])), ((u 0), .inl (k 0, 5, .inl (fun _ => 0))), ((u 1), .inl (k 0, 5, .inl (fun _ => 0))), ((u 2), .inl (k 0, 30, .inl (fun _ => 0))), ((u 3), .inl (k 0, 30, .inl (fun _ => 0))), ((u 4), .inl (k 0, 30, .inl (fun _ => 0))), ((u 5), .inl (k 0, 30, .inl (fun _ => 0))), ((u 6), .inl (k 0, 30, .inl (fun _ => 0))), ((u 7), .inl (k 1, 30, .inl (fun _ => 0))), ((u 8), .inl (k 1, 30, .inl (fun _ => 0)))]) (va_A [(h0, .inr (6, [.null, .null, .null, .null, .null, .null, .null, .null, .null, .int 0, .int 0]))] sz)) 9 220 (va_A [(h0, .inr (6, [.null, .null, .null, .null, .null, .null, .null, .null, .null, .int 0, .int 0]))] sz) := by
  refine fw_v (wf := fun u : Nat → Nat => [(h0, .inr (6, [.ref (u 0), .ref (u 1), .ref (u 2), .ref (u 3), .ref (u 4), .ref (u 5), .ref (u 6), .ref (u 7), .ref (u 8), .int 0, .int 0])), ((u 0), .inl (k 0, 5, .inl (fun _ => 0))), ((u 1), .inl (k 0, 5, .inl (fun _ => 0))), ((u 2), .inl (k 0, 30, .inl (fun _ => 0))), ((u 3), .inl (k 0, 30, .inl (fun _ => 0))), ((u 4), .inl (k 0, 30, .inl (fun _ => 0))), ((u 5), .inl (k 0, 30, .inl (fun _ => 0))), ((u 6), .inl (k 0, 30, .inl (fun _ => 0))), ((u 7), .inl (k 1, 30, .inl (fun _ => 0))), ((u 8), .inl (k 1, 30, .inl (fun _ => 0)))]) (by decide) rfl (Nat.le_of_ble_eq_true rfl) ?_
  intro p e s m args below meth c A Q ls hC hP hD hl hmn hret
  obtain ⟨⟨hx, hb, hml, hown, hts⟩, hG, hA⟩ := id hC
  have hK := hG.1
  have hS : va_S A s.heap s.heap [] := va_S.rf
  have hin_X2 : ∀ w ∈ u_ws RX2 TX2 11, w ∈ wq_X2_init := fun w h => List.mem_cons_of_mem _ (iU_X2 w h)
  have hf_9 := hts _ (List.mem_cons_of_mem _ A_77)
  have hf_15 := hts _ (List.mem_cons_of_mem _ A_78)
  have hf_18 := hts _ (List.mem_cons_of_mem _ A_16)
  have hf_21 := hts _ (List.mem_cons_of_mem _ A_79)
  have hf_24 := hts _ (List.mem_cons_of_mem _ A_80)
  have hf_27 := hts _ (List.mem_cons_of_mem _ A_81)
  have hf_30 := hts _ (List.mem_cons_of_mem _ A_18)
  have hf_33 := hts _ (List.mem_cons_of_mem _ A_83)
  have hf_37 := hts _ (List.mem_cons_of_mem _ A_84)
  have hl : lv_has ls 1 [(0, .ref h0)] := hl
  have hown : s.vm.findClass RX2 = some m.cls := hown
  refine lv_aload_n hx hb dX2_init_0 rfl (lv_at hl 0 rfl) ?_
  refine W.objInit hx hb hown (hts _ (List.mem_cons_of_mem _ A_76)) (hts _ (List.mem_cons_of_mem _ A_3)) (hts _ (List.mem_cons_of_mem _ A_4)) rfl (by rw [hml]; exact hl.1) rfl dX2_init_1 (Nat.le_of_ble_eq_true rfl) (Nat.le_of_ble_eq_true rfl) ?_
  refine W.eq (g2 := F0 m 4 ls []) rfl ?_
  refine lv_aload_n hx hb dX2_init_4 rfl (lv_at hl 0 rfl) ?_
  refine lv_iconst (v := 5) hx hb dX2_init_5 (by decide) ?_
  refine nw_int hC (hts _ (List.mem_cons_of_mem _ A_5)) hP hD hS (by decide) (N' := 5) (by decide) (Nat.le_of_ble_eq_true rfl) (Nat.le_of_ble_eq_true rfl) (Nat.le_of_ble_eq_true rfl) dX2_init_6 (fun q1 H hP hD hS => ?_)
  have hP : va_P D vwCl [(h0, .inr (6, [.null, .null, .null, .null, .null, .null, .null, .null, .null, .int 0, .int 0])), (q1, .inl (k 0, 5, .inl (fun _ => 0)))] H := hP
  have hD : va_D A [(h0, .inr (6, [.null, .null, .null, .null, .null, .null, .null, .null, .null, .int 0, .int 0])), (q1, .inl (k 0, 5, .inl (fun _ => 0)))] := hD
  refine va_putF (D := D) (ci := 6) (v := .ref q1) (ty := .array .int) (C := RX2) (T := TX2) (N := 11) hx hb hts hin_X2 tyX2 tyX2_ok nmX2 hown hK hP hD hS 0 rfl rfl 0 (by decide) hf_9 (fun _ h9 => h9) rfl hmn rfl (by decide +kernel) rfl rfl (Nat.le_of_ble_eq_true rfl) dX2_init_8 (fun H locs hP hD hS => ?_)
  have hP : va_P D vwCl [(h0, .inr (6, [.ref q1, .null, .null, .null, .null, .null, .null, .null, .null, .int 0, .int 0])), (q1, .inl (k 0, 5, .inl (fun _ => 0)))] H := hP
  have hD : va_D A [(h0, .inr (6, [.ref q1, .null, .null, .null, .null, .null, .null, .null, .null, .int 0, .int 0])), (q1, .inl (k 0, 5, .inl (fun _ => 0)))] := hD
  refine lv_aload_n hx hb dX2_init_11 rfl (lv_at hl 0 rfl) ?_
  refine lv_iconst (v := 5) hx hb dX2_init_12 (by decide) ?_
  refine nw_int hC (hts _ (List.mem_cons_of_mem _ A_5)) hP hD hS (by decide) (N' := 5) (by decide) (Nat.le_of_ble_eq_true rfl) (Nat.le_of_ble_eq_true rfl) (Nat.le_of_ble_eq_true rfl) dX2_init_13 (fun q2 H hP hD hS => ?_)
  have hP : va_P D vwCl [(h0, .inr (6, [.ref q1, .null, .null, .null, .null, .null, .null, .null, .null, .int 0, .int 0])), (q1, .inl (k 0, 5, .inl (fun _ => 0))), (q2, .inl (k 0, 5, .inl (fun _ => 0)))] H := hP
  have hD : va_D A [(h0, .inr (6, [.ref q1, .null, .null, .null, .null, .null, .null, .null, .null, .int 0, .int 0])), (q1, .inl (k 0, 5, .inl (fun _ => 0))), (q2, .inl (k 0, 5, .inl (fun _ => 0)))] := hD
  refine va_putF (D := D) (ci := 6) (v := .ref q2) (ty := .array .int) (C := RX2) (T := TX2) (N := 11) hx hb hts hin_X2 tyX2 tyX2_ok nmX2 hown hK hP hD hS 0 rfl rfl 1 (by decide) hf_15 (fun _ h9 => h9) rfl hmn rfl (by decide +kernel) rfl rfl (Nat.le_of_ble_eq_true rfl) dX2_init_15 (fun H locs hP hD hS => ?_)
  have hP : va_P D vwCl [(h0, .inr (6, [.ref q1, .ref q2, .null, .null, .null, .null, .null, .null, .null, .int 0, .int 0])), (q1, .inl (k 0, 5, .inl (fun _ => 0))), (q2, .inl (k 0, 5, .inl (fun _ => 0)))] H := hP
  have hD : va_D A [(h0, .inr (6, [.ref q1, .ref q2, .null, .null, .null, .null, .null, .null, .null, .int 0, .int 0])), (q1, .inl (k 0, 5, .inl (fun _ => 0))), (q2, .inl (k 0, 5, .inl (fun _ => 0)))] := hD
  refine lv_aload_n hx hb dX2_init_18 rfl (lv_at hl 0 rfl) ?_
  refine lv_bipush (v := 30) hx hb dX2_init_19 (by decide) ?_
  refine nw_int hC (hts _ (List.mem_cons_of_mem _ A_5)) hP hD hS (by decide) (N' := 30) (by decide) (Nat.le_of_ble_eq_true rfl) (Nat.le_of_ble_eq_true rfl) (Nat.le_of_ble_eq_true rfl) dX2_init_21 (fun q3 H hP hD hS => ?_)
  have hP : va_P D vwCl [(h0, .inr (6, [.ref q1, .ref q2, .null, .null, .null, .null, .null, .null, .null, .int 0, .int 0])), (q1, .inl (k 0, 5, .inl (fun _ => 0))), (q2, .inl (k 0, 5, .inl (fun _ => 0))), (q3, .inl (k 0, 30, .inl (fun _ => 0)))] H := hP
  have hD : va_D A [(h0, .inr (6, [.ref q1, .ref q2, .null, .null, .null, .null, .null, .null, .null, .int 0, .int 0])), (q1, .inl (k 0, 5, .inl (fun _ => 0))), (q2, .inl (k 0, 5, .inl (fun _ => 0))), (q3, .inl (k 0, 30, .inl (fun _ => 0)))] := hD
  refine va_putF (D := D) (ci := 6) (v := .ref q3) (ty := .array .int) (C := RX2) (T := TX2) (N := 11) hx hb hts hin_X2 tyX2 tyX2_ok nmX2 hown hK hP hD hS 0 rfl rfl 2 (by decide) hf_18 (fun _ h9 => h9) rfl hmn rfl (by decide +kernel) rfl rfl (Nat.le_of_ble_eq_true rfl) dX2_init_23 (fun H locs hP hD hS => ?_)
  have hP : va_P D vwCl [(h0, .inr (6, [.ref q1, .ref q2, .ref q3, .null, .null, .null, .null, .null, .null, .int 0, .int 0])), (q1, .inl (k 0, 5, .inl (fun _ => 0))), (q2, .inl (k 0, 5, .inl (fun _ => 0))), (q3, .inl (k 0, 30, .inl (fun _ => 0)))] H := hP
  have hD : va_D A [(h0, .inr (6, [.ref q1, .ref q2, .ref q3, .null, .null, .null, .null, .null, .null, .int 0, .int 0])), (q1, .inl (k 0, 5, .inl (fun _ => 0))), (q2, .inl (k 0, 5, .inl (fun _ => 0))), (q3, .inl (k 0, 30, .inl (fun _ => 0)))] := hD
  refine lv_aload_n hx hb dX2_init_26 rfl (lv_at hl 0 rfl) ?_
  refine lv_bipush (v := 30) hx hb dX2_init_27 (by decide) ?_
  refine nw_int hC (hts _ (List.mem_cons_of_mem _ A_5)) hP hD hS (by decide) (N' := 30) (by decide) (Nat.le_of_ble_eq_true rfl) (Nat.le_of_ble_eq_true rfl) (Nat.le_of_ble_eq_true rfl) dX2_init_29 (fun q4 H hP hD hS => ?_)
  have hP : va_P D vwCl [(h0, .inr (6, [.ref q1, .ref q2, .ref q3, .null, .null, .null, .null, .null, .null, .int 0, .int 0])), (q1, .inl (k 0, 5, .inl (fun _ => 0))), (q2, .inl (k 0, 5, .inl (fun _ => 0))), (q3, .inl (k 0, 30, .inl (fun _ => 0))), (q4, .inl (k 0, 30, .inl (fun _ => 0)))] H := hP
  have hD : va_D A [(h0, .inr (6, [.ref q1, .ref q2, .ref q3, .null, .null, .null, .null, .null, .null, .int 0, .int 0])), (q1, .inl (k 0, 5, .inl (fun _ => 0))), (q2, .inl (k 0, 5, .inl (fun _ => 0))), (q3, .inl (k 0, 30, .inl (fun _ => 0))), (q4, .inl (k 0, 30, .inl (fun _ => 0)))] := hD
  refine va_putF (D := D) (ci := 6) (v := .ref q4) (ty := .array .int) (C := RX2) (T := TX2) (N := 11) hx hb hts hin_X2 tyX2 tyX2_ok nmX2 hown hK hP hD hS 0 rfl rfl 3 (by decide) hf_21 (fun _ h9 => h9) rfl hmn rfl (by decide +kernel) rfl rfl (Nat.le_of_ble_eq_true rfl) dX2_init_31 (fun H locs hP hD hS => ?_)
  have hP : va_P D vwCl [(h0, .inr (6, [.ref q1, .ref q2, .ref q3, .ref q4, .null, .null, .null, .null, .null, .int 0, .int 0])), (q1, .inl (k 0, 5, .inl (fun _ => 0))), (q2, .inl (k 0, 5, .inl (fun _ => 0))), (q3, .inl (k 0, 30, .inl (fun _ => 0))), (q4, .inl (k 0, 30, .inl (fun _ => 0)))] H := hP
  have hD : va_D A [(h0, .inr (6, [.ref q1, .ref q2, .ref q3, .ref q4, .null, .null, .null, .null, .null, .int 0, .int 0])), (q1, .inl (k 0, 5, .inl (fun _ => 0))), (q2, .inl (k 0, 5, .inl (fun _ => 0))), (q3, .inl (k 0, 30, .inl (fun _ => 0))), (q4, .inl (k 0, 30, .inl (fun _ => 0)))] := hD
  refine lv_aload_n hx hb dX2_init_34 rfl (lv_at hl 0 rfl) ?_
  refine lv_bipush (v := 30) hx hb dX2_init_35 (by decide) ?_
  refine nw_int hC (hts _ (List.mem_cons_of_mem _ A_5)) hP hD hS (by decide) (N' := 30) (by decide) (Nat.le_of_ble_eq_true rfl) (Nat.le_of_ble_eq_true rfl) (Nat.le_of_ble_eq_true rfl) dX2_init_37 (fun q5 H hP hD hS => ?_)
  have hP : va_P D vwCl [(h0, .inr (6, [.ref q1, .ref q2, .ref q3, .ref q4, .null, .null, .null, .null, .null, .int 0, .int 0])), (q1, .inl (k 0, 5, .inl (fun _ => 0))), (q2, .inl (k 0, 5, .inl (fun _ => 0))), (q3, .inl (k 0, 30, .inl (fun _ => 0))), (q4, .inl (k 0, 30, .inl (fun _ => 0))), (q5, .inl (k 0, 30, .inl (fun _ => 0)))] H := hP
  have hD : va_D A [(h0, .inr (6, [.ref q1, .ref q2, .ref q3, .ref q4, .null, .null, .null, .null, .null, .int 0, .int 0])), (q1, .inl (k 0, 5, .inl (fun _ => 0))), (q2, .inl (k 0, 5, .inl (fun _ => 0))), (q3, .inl (k 0, 30, .inl (fun _ => 0))), (q4, .inl (k 0, 30, .inl (fun _ => 0))), (q5, .inl (k 0, 30, .inl (fun _ => 0)))] := hD
  refine va_putF (D := D) (ci := 6) (v := .ref q5) (ty := .array .int) (C := RX2) (T := TX2) (N := 11) hx hb hts hin_X2 tyX2 tyX2_ok nmX2 hown hK hP hD hS 0 rfl rfl 4 (by decide) hf_24 (fun _ h9 => h9) rfl hmn rfl (by decide +kernel) rfl rfl (Nat.le_of_ble_eq_true rfl) dX2_init_39 (fun H locs hP hD hS => ?_)
  have hP : va_P D vwCl [(h0, .inr (6, [.ref q1, .ref q2, .ref q3, .ref q4, .ref q5, .null, .null, .null, .null, .int 0, .int 0])), (q1, .inl (k 0, 5, .inl (fun _ => 0))), (q2, .inl (k 0, 5, .inl (fun _ => 0))), (q3, .inl (k 0, 30, .inl (fun _ => 0))), (q4, .inl (k 0, 30, .inl (fun _ => 0))), (q5, .inl (k 0, 30, .inl (fun _ => 0)))] H := hP
  have hD : va_D A [(h0, .inr (6, [.ref q1, .ref q2, .ref q3, .ref q4, .ref q5, .null, .null, .null, .null, .int 0, .int 0])), (q1, .inl (k 0, 5, .inl (fun _ => 0))), (q2, .inl (k 0, 5, .inl (fun _ => 0))), (q3, .inl (k 0, 30, .inl (fun _ => 0))), (q4, .inl (k 0, 30, .inl (fun _ => 0))), (q5, .inl (k 0, 30, .inl (fun _ => 0)))] := hD
  refine lv_aload_n hx hb dX2_init_42 rfl (lv_at hl 0 rfl) ?_
  refine lv_bipush (v := 30) hx hb dX2_init_43 (by decide) ?_
  refine nw_int hC (hts _ (List.mem_cons_of_mem _ A_5)) hP hD hS (by decide) (N' := 30) (by decide) (Nat.le_of_ble_eq_true rfl) (Nat.le_of_ble_eq_true rfl) (Nat.le_of_ble_eq_true rfl) dX2_init_45 (fun q6 H hP hD hS => ?_)
  have hP : va_P D vwCl [(h0, .inr (6, [.ref q1, .ref q2, .ref q3, .ref q4, .ref q5, .null, .null, .null, .null, .int 0, .int 0])), (q1, .inl (k 0, 5, .inl (fun _ => 0))), (q2, .inl (k 0, 5, .inl (fun _ => 0))), (q3, .inl (k 0, 30, .inl (fun _ => 0))), (q4, .inl (k 0, 30, .inl (fun _ => 0))), (q5, .inl (k 0, 30, .inl (fun _ => 0))), (q6, .inl (k 0, 30, .inl (fun _ => 0)))] H := hP
  have hD : va_D A [(h0, .inr (6, [.ref q1, .ref q2, .ref q3, .ref q4, .ref q5, .null, .null, .null, .null, .int 0, .int 0])), (q1, .inl (k 0, 5, .inl (fun _ => 0))), (q2, .inl (k 0, 5, .inl (fun _ => 0))), (q3, .inl (k 0, 30, .inl (fun _ => 0))), (q4, .inl (k 0, 30, .inl (fun _ => 0))), (q5, .inl (k 0, 30, .inl (fun _ => 0))), (q6, .inl (k 0, 30, .inl (fun _ => 0)))] := hD
  refine va_putF (D := D) (ci := 6) (v := .ref q6) (ty := .array .int) (C := RX2) (T := TX2) (N := 11) hx hb hts hin_X2 tyX2 tyX2_ok nmX2 hown hK hP hD hS 0 rfl rfl 5 (by decide) hf_27 (fun _ h9 => h9) rfl hmn rfl (by decide +kernel) rfl rfl (Nat.le_of_ble_eq_true rfl) dX2_init_47 (fun H locs hP hD hS => ?_)
  have hP : va_P D vwCl [(h0, .inr (6, [.ref q1, .ref q2, .ref q3, .ref q4, .ref q5, .ref q6, .null, .null, .null, .int 0, .int 0])), (q1, .inl (k 0, 5, .inl (fun _ => 0))), (q2, .inl (k 0, 5, .inl (fun _ => 0))), (q3, .inl (k 0, 30, .inl (fun _ => 0))), (q4, .inl (k 0, 30, .inl (fun _ => 0))), (q5, .inl (k 0, 30, .inl (fun _ => 0))), (q6, .inl (k 0, 30, .inl (fun _ => 0)))] H := hP
  have hD : va_D A [(h0, .inr (6, [.ref q1, .ref q2, .ref q3, .ref q4, .ref q5, .ref q6, .null, .null, .null, .int 0, .int 0])), (q1, .inl (k 0, 5, .inl (fun _ => 0))), (q2, .inl (k 0, 5, .inl (fun _ => 0))), (q3, .inl (k 0, 30, .inl (fun _ => 0))), (q4, .inl (k 0, 30, .inl (fun _ => 0))), (q5, .inl (k 0, 30, .inl (fun _ => 0))), (q6, .inl (k 0, 30, .inl (fun _ => 0)))] := hD
  refine lv_aload_n hx hb dX2_init_50 rfl (lv_at hl 0 rfl) ?_
  refine lv_bipush (v := 30) hx hb dX2_init_51 (by decide) ?_
  refine nw_int hC (hts _ (List.mem_cons_of_mem _ A_5)) hP hD hS (by decide) (N' := 30) (by decide) (Nat.le_of_ble_eq_true rfl) (Nat.le_of_ble_eq_true rfl) (Nat.le_of_ble_eq_true rfl) dX2_init_53 (fun q7 H hP hD hS => ?_)
  have hP : va_P D vwCl [(h0, .inr (6, [.ref q1, .ref q2, .ref q3, .ref q4, .ref q5, .ref q6, .null, .null, .null, .int 0, .int 0])), (q1, .inl (k 0, 5, .inl (fun _ => 0))), (q2, .inl (k 0, 5, .inl (fun _ => 0))), (q3, .inl (k 0, 30, .inl (fun _ => 0))), (q4, .inl (k 0, 30, .inl (fun _ => 0))), (q5, .inl (k 0, 30, .inl (fun _ => 0))), (q6, .inl (k 0, 30, .inl (fun _ => 0))), (q7, .inl (k 0, 30, .inl (fun _ => 0)))] H := hP
  have hD : va_D A [(h0, .inr (6, [.ref q1, .ref q2, .ref q3, .ref q4, .ref q5, .ref q6, .null, .null, .null, .int 0, .int 0])), (q1, .inl (k 0, 5, .inl (fun _ => 0))), (q2, .inl (k 0, 5, .inl (fun _ => 0))), (q3, .inl (k 0, 30, .inl (fun _ => 0))), (q4, .inl (k 0, 30, .inl (fun _ => 0))), (q5, .inl (k 0, 30, .inl (fun _ => 0))), (q6, .inl (k 0, 30, .inl (fun _ => 0))), (q7, .inl (k 0, 30, .inl (fun _ => 0)))] := hD
  refine va_putF (D := D) (ci := 6) (v := .ref q7) (ty := .array .int) (C := RX2) (T := TX2) (N := 11) hx hb hts hin_X2 tyX2 tyX2_ok nmX2 hown hK hP hD hS 0 rfl rfl 6 (by decide) hf_30 (fun _ h9 => h9) rfl hmn rfl (by decide +kernel) rfl rfl (Nat.le_of_ble_eq_true rfl) dX2_init_55 (fun H locs hP hD hS => ?_)
  have hP : va_P D vwCl [(h0, .inr (6, [.ref q1, .ref q2, .ref q3, .ref q4, .ref q5, .ref q6, .ref q7, .null, .null, .int 0, .int 0])), (q1, .inl (k 0, 5, .inl (fun _ => 0))), (q2, .inl (k 0, 5, .inl (fun _ => 0))), (q3, .inl (k 0, 30, .inl (fun _ => 0))), (q4, .inl (k 0, 30, .inl (fun _ => 0))), (q5, .inl (k 0, 30, .inl (fun _ => 0))), (q6, .inl (k 0, 30, .inl (fun _ => 0))), (q7, .inl (k 0, 30, .inl (fun _ => 0)))] H := hP
  have hD : va_D A [(h0, .inr (6, [.ref q1, .ref q2, .ref q3, .ref q4, .ref q5, .ref q6, .ref q7, .null, .null, .int 0, .int 0])), (q1, .inl (k 0, 5, .inl (fun _ => 0))), (q2, .inl (k 0, 5, .inl (fun _ => 0))), (q3, .inl (k 0, 30, .inl (fun _ => 0))), (q4, .inl (k 0, 30, .inl (fun _ => 0))), (q5, .inl (k 0, 30, .inl (fun _ => 0))), (q6, .inl (k 0, 30, .inl (fun _ => 0))), (q7, .inl (k 0, 30, .inl (fun _ => 0)))] := hD
  refine lv_aload_n hx hb dX2_init_58 rfl (lv_at hl 0 rfl) ?_
  refine lv_bipush (v := 30) hx hb dX2_init_59 (by decide) ?_
  refine nw_bool hC (hts _ (List.mem_cons_of_mem _ A_82)) hP hD hS (by decide) (N' := 30) (by decide) (Nat.le_of_ble_eq_true rfl) (Nat.le_of_ble_eq_true rfl) (Nat.le_of_ble_eq_true rfl) dX2_init_61 (fun q8 H hP hD hS => ?_)
  have hP : va_P D vwCl [(h0, .inr (6, [.ref q1, .ref q2, .ref q3, .ref q4, .ref q5, .ref q6, .ref q7, .null, .null, .int 0, .int 0])), (q1, .inl (k 0, 5, .inl (fun _ => 0))), (q2, .inl (k 0, 5, .inl (fun _ => 0))), (q3, .inl (k 0, 30, .inl (fun _ => 0))), (q4, .inl (k 0, 30, .inl (fun _ => 0))), (q5, .inl (k 0, 30, .inl (fun _ => 0))), (q6, .inl (k 0, 30, .inl (fun _ => 0))), (q7, .inl (k 0, 30, .inl (fun _ => 0))), (q8, .inl (k 1, 30, .inl (fun _ => 0)))] H := hP
  have hD : va_D A [(h0, .inr (6, [.ref q1, .ref q2, .ref q3, .ref q4, .ref q5, .ref q6, .ref q7, .null, .null, .int 0, .int 0])), (q1, .inl (k 0, 5, .inl (fun _ => 0))), (q2, .inl (k 0, 5, .inl (fun _ => 0))), (q3, .inl (k 0, 30, .inl (fun _ => 0))), (q4, .inl (k 0, 30, .inl (fun _ => 0))), (q5, .inl (k 0, 30, .inl (fun _ => 0))), (q6, .inl (k 0, 30, .inl (fun _ => 0))), (q7, .inl (k 0, 30, .inl (fun _ => 0))), (q8, .inl (k 1, 30, .inl (fun _ => 0)))] := hD
  refine va_putF (D := D) (ci := 6) (v := .ref q8) (ty := .array .boolean) (C := RX2) (T := TX2) (N := 11) hx hb hts hin_X2 tyX2 tyX2_ok nmX2 hown hK hP hD hS 0 rfl rfl 7 (by decide) hf_33 (fun _ h9 => h9) rfl hmn rfl (by decide +kernel) rfl rfl (Nat.le_of_ble_eq_true rfl) dX2_init_63 (fun H locs hP hD hS => ?_)
  have hP : va_P D vwCl [(h0, .inr (6, [.ref q1, .ref q2, .ref q3, .ref q4, .ref q5, .ref q6, .ref q7, .ref q8, .null, .int 0, .int 0])), (q1, .inl (k 0, 5, .inl (fun _ => 0))), (q2, .inl (k 0, 5, .inl (fun _ => 0))), (q3, .inl (k 0, 30, .inl (fun _ => 0))), (q4, .inl (k 0, 30, .inl (fun _ => 0))), (q5, .inl (k 0, 30, .inl (fun _ => 0))), (q6, .inl (k 0, 30, .inl (fun _ => 0))), (q7, .inl (k 0, 30, .inl (fun _ => 0))), (q8, .inl (k 1, 30, .inl (fun _ => 0)))] H := hP
  have hD : va_D A [(h0, .inr (6, [.ref q1, .ref q2, .ref q3, .ref q4, .ref q5, .ref q6, .ref q7, .ref q8, .null, .int 0, .int 0])), (q1, .inl (k 0, 5, .inl (fun _ => 0))), (q2, .inl (k 0, 5, .inl (fun _ => 0))), (q3, .inl (k 0, 30, .inl (fun _ => 0))), (q4, .inl (k 0, 30, .inl (fun _ => 0))), (q5, .inl (k 0, 30, .inl (fun _ => 0))), (q6, .inl (k 0, 30, .inl (fun _ => 0))), (q7, .inl (k 0, 30, .inl (fun _ => 0))), (q8, .inl (k 1, 30, .inl (fun _ => 0)))] := hD
  refine lv_aload_n hx hb dX2_init_66 rfl (lv_at hl 0 rfl) ?_
  refine lv_bipush (v := 30) hx hb dX2_init_67 (by decide) ?_
  refine nw_bool hC (hts _ (List.mem_cons_of_mem _ A_82)) hP hD hS (by decide) (N' := 30) (by decide) (Nat.le_of_ble_eq_true rfl) (Nat.le_of_ble_eq_true rfl) (Nat.le_of_ble_eq_true rfl) dX2_init_69 (fun q9 H hP hD hS => ?_)
  have hP : va_P D vwCl [(h0, .inr (6, [.ref q1, .ref q2, .ref q3, .ref q4, .ref q5, .ref q6, .ref q7, .ref q8, .null, .int 0, .int 0])), (q1, .inl (k 0, 5, .inl (fun _ => 0))), (q2, .inl (k 0, 5, .inl (fun _ => 0))), (q3, .inl (k 0, 30, .inl (fun _ => 0))), (q4, .inl (k 0, 30, .inl (fun _ => 0))), (q5, .inl (k 0, 30, .inl (fun _ => 0))), (q6, .inl (k 0, 30, .inl (fun _ => 0))), (q7, .inl (k 0, 30, .inl (fun _ => 0))), (q8, .inl (k 1, 30, .inl (fun _ => 0))), (q9, .inl (k 1, 30, .inl (fun _ => 0)))] H := hP
  have hD : va_D A [(h0, .inr (6, [.ref q1, .ref q2, .ref q3, .ref q4, .ref q5, .ref q6, .ref q7, .ref q8, .null, .int 0, .int 0])), (q1, .inl (k 0, 5, .inl (fun _ => 0))), (q2, .inl (k 0, 5, .inl (fun _ => 0))), (q3, .inl (k 0, 30, .inl (fun _ => 0))), (q4, .inl (k 0, 30, .inl (fun _ => 0))), (q5, .inl (k 0, 30, .inl (fun _ => 0))), (q6, .inl (k 0, 30, .inl (fun _ => 0))), (q7, .inl (k 0, 30, .inl (fun _ => 0))), (q8, .inl (k 1, 30, .inl (fun _ => 0))), (q9, .inl (k 1, 30, .inl (fun _ => 0)))] := hD
  refine va_putF (D := D) (ci := 6) (v := .ref q9) (ty := .array .boolean) (C := RX2) (T := TX2) (N := 11) hx hb hts hin_X2 tyX2 tyX2_ok nmX2 hown hK hP hD hS 0 rfl rfl 8 (by decide) hf_37 (fun _ h9 => h9) rfl hmn rfl (by decide +kernel) rfl rfl (Nat.le_of_ble_eq_true rfl) dX2_init_71 (fun H locs hP hD hS => ?_)
  have hP : va_P D vwCl [(h0, .inr (6, [.ref q1, .ref q2, .ref q3, .ref q4, .ref q5, .ref q6, .ref q7, .ref q8, .ref q9, .int 0, .int 0])), (q1, .inl (k 0, 5, .inl (fun _ => 0))), (q2, .inl (k 0, 5, .inl (fun _ => 0))), (q3, .inl (k 0, 30, .inl (fun _ => 0))), (q4, .inl (k 0, 30, .inl (fun _ => 0))), (q5, .inl (k 0, 30, .inl (fun _ => 0))), (q6, .inl (k 0, 30, .inl (fun _ => 0))), (q7, .inl (k 0, 30, .inl (fun _ => 0))), (q8, .inl (k 1, 30, .inl (fun _ => 0))), (q9, .inl (k 1, 30, .inl (fun _ => 0)))] H := hP
  have hD : va_D A [(h0, .inr (6, [.ref q1, .ref q2, .ref q3, .ref q4, .ref q5, .ref q6, .ref q7, .ref q8, .ref q9, .int 0, .int 0])), (q1, .inl (k 0, 5, .inl (fun _ => 0))), (q2, .inl (k 0, 5, .inl (fun _ => 0))), (q3, .inl (k 0, 30, .inl (fun _ => 0))), (q4, .inl (k 0, 30, .inl (fun _ => 0))), (q5, .inl (k 0, 30, .inl (fun _ => 0))), (q6, .inl (k 0, 30, .inl (fun _ => 0))), (q7, .inl (k 0, 30, .inl (fun _ => 0))), (q8, .inl (k 1, 30, .inl (fun _ => 0))), (q9, .inl (k 1, 30, .inl (fun _ => 0)))] := hD
  exact hret (fun i => ([q1, q2, q3, q4, q5, q6, q7, q8, q9] : List Nat).getD i 0) _ _ _ _ _ _ dX2_init_74 hP hD hS (Nat.le_of_ble_eq_true rfl) (Nat.le_of_ble_eq_true rfl) trivial
abbrev rm_X3_init : Room := { frames := 1, cells := 1, slots := 5, locals := 12 }
abbrev wq_X3_init : List Cond := Cond.code yX3_init cX3_init 2 none :: wALL
set_option maxHeartbeats 4000000 in
set_option maxRecDepth 100000 in
theorem c_X3_init (l : Launch) (D : va_G) (k : Nat → Nat) (h0 : Nat) (a1 : Nat) {sz : Nat} : Met l yX3_init wq_X3_init rm_X3_init (va_Pc [.ref h0, .ref a1] (Pw D k [(h0, .inr (7, [.null, .null, .int 0]))] sz)) (va_Qv (fun _ : Nat → Nat => True) (fun u => Bw D [(h0, .inr (7, [.null, .null, .int 0]))] sz [(h0, .inr (7, [.ref a1, .ref (u 0), .int 0])), ((u 0), .inl (k 0, 5, .inl (fun _ => 0)))]) (va_A [(h0, .inr (7, [.null, .null, .int 0]))] sz)) 1 5 (va_A [(h0, .inr (7, [.null, .null, .int 0]))] sz) := by
  refine fw_v (wf := fun u : Nat → Nat => [(h0, .inr (7, [.ref a1, .ref (u 0), .int 0])), ((u 0), .inl (k 0, 5, .inl (fun _ => 0)))]) (by decide) rfl (Nat.le_of_ble_eq_true rfl) ?_
  intro p e s m args below meth c A Q ls hC hP hD hl hmn hret
  obtain ⟨⟨hx, hb, hml, hown, hts⟩, hG, hA⟩ := id hC
  have hK := hG.1
  have hS : va_S A s.heap s.heap [] := va_S.rf
  have hin_X3 : ∀ w ∈ u_ws RX3 TX3 3, w ∈ wq_X3_init := fun w h => List.mem_cons_of_mem _ (iU_X3 w h)
  have hf_9 := hts _ (List.mem_cons_of_mem _ A_99)
  have hf_15 := hts _ (List.mem_cons_of_mem _ A_100)
  have hl : lv_has ls 2 [(0, .ref h0), (1, .ref a1)] := hl
  have hown : s.vm.findClass RX3 = some m.cls := hown
  refine lv_aload_n hx hb dX3_init_0 rfl (lv_at hl 0 rfl) ?_
  refine W.objInit hx hb hown (hts _ (List.mem_cons_of_mem _ A_98)) (hts _ (List.mem_cons_of_mem _ A_3)) (hts _ (List.mem_cons_of_mem _ A_4)) rfl (by rw [hml]; exact hl.1) rfl dX3_init_1 (Nat.le_of_ble_eq_true rfl) (Nat.le_of_ble_eq_true rfl) ?_
  refine W.eq (g2 := F0 m 4 ls []) rfl ?_
  refine lv_aload_n hx hb dX3_init_4 rfl (lv_at hl 0 rfl) ?_
  refine lv_iconst (v := 5) hx hb dX3_init_5 (by decide) ?_
  refine nw_int hC (hts _ (List.mem_cons_of_mem _ A_5)) hP hD hS (by decide) (N' := 5) (by decide) (Nat.le_of_ble_eq_true rfl) (Nat.le_of_ble_eq_true rfl) (Nat.le_of_ble_eq_true rfl) dX3_init_6 (fun q1 H hP hD hS => ?_)
  have hP : va_P D vwCl [(h0, .inr (7, [.null, .null, .int 0])), (q1, .inl (k 0, 5, .inl (fun _ => 0)))] H := hP
  have hD : va_D A [(h0, .inr (7, [.null, .null, .int 0])), (q1, .inl (k 0, 5, .inl (fun _ => 0)))] := hD
  refine va_putF (D := D) (ci := 7) (v := .ref q1) (ty := .array .int) (C := RX3) (T := TX3) (N := 3) hx hb hts hin_X3 tyX3 tyX3_ok nmX3 hown hK hP hD hS 0 rfl rfl 1 (by decide) hf_9 (fun _ h9 => h9) rfl hmn rfl (by decide +kernel) rfl rfl (Nat.le_of_ble_eq_true rfl) dX3_init_8 (fun H locs hP hD hS => ?_)
  have hP : va_P D vwCl [(h0, .inr (7, [.null, .ref q1, .int 0])), (q1, .inl (k 0, 5, .inl (fun _ => 0)))] H := hP
  have hD : va_D A [(h0, .inr (7, [.null, .ref q1, .int 0])), (q1, .inl (k 0, 5, .inl (fun _ => 0)))] := hD
  refine lv_aload_n hx hb dX3_init_11 rfl (lv_at hl 0 rfl) ?_
  refine lv_aload_n hx hb dX3_init_12 rfl (lv_at hl 1 rfl) ?_
  refine va_putF (D := D) (ci := 7) (v := .ref a1) (ty := .object "Meetjoin$Laws") (C := RX3) (T := TX3) (N := 3) hx hb hts hin_X3 tyX3 tyX3_ok nmX3 hown hK hP hD hS 0 rfl rfl 0 (by decide) hf_15 (fun _ h9 => h9) rfl hmn rfl (by decide +kernel) rfl rfl (Nat.le_of_ble_eq_true rfl) dX3_init_13 (fun H locs hP hD hS => ?_)
  have hP : va_P D vwCl [(h0, .inr (7, [.ref a1, .ref q1, .int 0])), (q1, .inl (k 0, 5, .inl (fun _ => 0)))] H := hP
  have hD : va_D A [(h0, .inr (7, [.ref a1, .ref q1, .int 0])), (q1, .inl (k 0, 5, .inl (fun _ => 0)))] := hD
  exact hret (fun i => ([q1] : List Nat).getD i 0) _ _ _ _ _ _ dX3_init_16 hP hD hS (Nat.le_of_ble_eq_true rfl) (Nat.le_of_ble_eq_true rfl) trivial
abbrev rm_X0_init : Room := { frames := 1, cells := 3, slots := 15, locals := 23 }
abbrev wq_X0_init : List Cond := Cond.code yX0_init cX0_init 2 none :: wALL
set_option maxHeartbeats 4000000 in
set_option maxRecDepth 100000 in
theorem c_X0_init (l : Launch) (D : va_G) (k : Nat → Nat) (h0 : Nat) (a1 : Nat) {sz : Nat} : Met l yX0_init wq_X0_init rm_X0_init (va_Pc [.ref h0, .ref a1] (Pw D k [(h0, .inr (4, [.null, .null, .null, .null, .int 0, .int 0, .int 0]))] sz)) (va_Qv (fun _ : Nat → Nat => True) (fun u => Bw D [(h0, .inr (4, [.null, .null, .null, .null, .int 0, .int 0, .int 0]))] sz [(h0, .inr (4, [.ref a1, .ref (u 0), .ref (u 1), .ref (u 2), .int (-1), .int 0, .int 0])), ((u 0), .inl (k 0, 5, .inl (fun _ => 0))), ((u 1), .inl (k 0, 5, .inl (fun _ => 0))), ((u 2), .inl (k 0, 5, .inl (fl_row 5 (-1) (fun _ => 0))))]) (va_A [(h0, .inr (4, [.null, .null, .null, .null, .int 0, .int 0, .int 0]))] sz)) 3 15 (va_A [(h0, .inr (4, [.null, .null, .null, .null, .int 0, .int 0, .int 0]))] sz) := by
  refine fw_v (wf := fun u : Nat → Nat => [(h0, .inr (4, [.ref a1, .ref (u 0), .ref (u 1), .ref (u 2), .int (-1), .int 0, .int 0])), ((u 0), .inl (k 0, 5, .inl (fun _ => 0))), ((u 1), .inl (k 0, 5, .inl (fun _ => 0))), ((u 2), .inl (k 0, 5, .inl (fl_row 5 (-1) (fun _ => 0))))]) (by decide) rfl (Nat.le_of_ble_eq_true rfl) ?_
  intro p e s m args below meth c A Q ls hC hP hD hl hmn hret
  obtain ⟨⟨hx, hb, hml, hown, hts⟩, hG, hA⟩ := id hC
  have hK := hG.1
  have hS : va_S A s.heap s.heap [] := va_S.rf
  have hin_X0 : ∀ w ∈ u_ws RX0 TX0 7, w ∈ wq_X0_init := fun w h => List.mem_cons_of_mem _ (iU_X0 w h)
  have hf_9 := hts _ (List.mem_cons_of_mem _ A_6)
  have hf_15 := hts _ (List.mem_cons_of_mem _ A_7)
  have hf_18 := hts _ (List.mem_cons_of_mem _ A_8)
  have hf_21 := hts _ (List.mem_cons_of_mem _ A_9)
  have hf_31 := hts _ (List.mem_cons_of_mem _ A_10)
  have hl : lv_has ls 2 [(0, .ref h0), (1, .ref a1)] := hl
  have hown : s.vm.findClass RX0 = some m.cls := hown
  refine lv_aload_n hx hb dX0_init_0 rfl (lv_at hl 0 rfl) ?_
  refine W.objInit hx hb hown (hts _ (List.mem_cons_of_mem _ A_2)) (hts _ (List.mem_cons_of_mem _ A_3)) (hts _ (List.mem_cons_of_mem _ A_4)) rfl (by rw [hml]; exact hl.1) rfl dX0_init_1 (Nat.le_of_ble_eq_true rfl) (Nat.le_of_ble_eq_true rfl) ?_
  refine W.eq (g2 := F0 m 4 ls []) rfl ?_
  refine lv_aload_n hx hb dX0_init_4 rfl (lv_at hl 0 rfl) ?_
  refine lv_iconst (v := 5) hx hb dX0_init_5 (by decide) ?_
  refine nw_int hC (hts _ (List.mem_cons_of_mem _ A_5)) hP hD hS (by decide) (N' := 5) (by decide) (Nat.le_of_ble_eq_true rfl) (Nat.le_of_ble_eq_true rfl) (Nat.le_of_ble_eq_true rfl) dX0_init_6 (fun q1 H hP hD hS => ?_)
  have hP : va_P D vwCl [(h0, .inr (4, [.null, .null, .null, .null, .int 0, .int 0, .int 0])), (q1, .inl (k 0, 5, .inl (fun _ => 0)))] H := hP
  have hD : va_D A [(h0, .inr (4, [.null, .null, .null, .null, .int 0, .int 0, .int 0])), (q1, .inl (k 0, 5, .inl (fun _ => 0)))] := hD
  refine va_putF (D := D) (ci := 4) (v := .ref q1) (ty := .array .int) (C := RX0) (T := TX0) (N := 7) hx hb hts hin_X0 tyX0 tyX0_ok nmX0 hown hK hP hD hS 0 rfl rfl 1 (by decide) hf_9 (fun _ h9 => h9) rfl hmn rfl (by decide +kernel) rfl rfl (Nat.le_of_ble_eq_true rfl) dX0_init_8 (fun H locs hP hD hS => ?_)
  have hP : va_P D vwCl [(h0, .inr (4, [.null, .ref q1, .null, .null, .int 0, .int 0, .int 0])), (q1, .inl (k 0, 5, .inl (fun _ => 0)))] H := hP
  have hD : va_D A [(h0, .inr (4, [.null, .ref q1, .null, .null, .int 0, .int 0, .int 0])), (q1, .inl (k 0, 5, .inl (fun _ => 0)))] := hD
  refine lv_aload_n hx hb dX0_init_11 rfl (lv_at hl 0 rfl) ?_
  refine lv_iconst (v := 5) hx hb dX0_init_12 (by decide) ?_
  refine nw_int hC (hts _ (List.mem_cons_of_mem _ A_5)) hP hD hS (by decide) (N' := 5) (by decide) (Nat.le_of_ble_eq_true rfl) (Nat.le_of_ble_eq_true rfl) (Nat.le_of_ble_eq_true rfl) dX0_init_13 (fun q2 H hP hD hS => ?_)
  have hP : va_P D vwCl [(h0, .inr (4, [.null, .ref q1, .null, .null, .int 0, .int 0, .int 0])), (q1, .inl (k 0, 5, .inl (fun _ => 0))), (q2, .inl (k 0, 5, .inl (fun _ => 0)))] H := hP
  have hD : va_D A [(h0, .inr (4, [.null, .ref q1, .null, .null, .int 0, .int 0, .int 0])), (q1, .inl (k 0, 5, .inl (fun _ => 0))), (q2, .inl (k 0, 5, .inl (fun _ => 0)))] := hD
  refine va_putF (D := D) (ci := 4) (v := .ref q2) (ty := .array .int) (C := RX0) (T := TX0) (N := 7) hx hb hts hin_X0 tyX0 tyX0_ok nmX0 hown hK hP hD hS 0 rfl rfl 2 (by decide) hf_15 (fun _ h9 => h9) rfl hmn rfl (by decide +kernel) rfl rfl (Nat.le_of_ble_eq_true rfl) dX0_init_15 (fun H locs hP hD hS => ?_)
  have hP : va_P D vwCl [(h0, .inr (4, [.null, .ref q1, .ref q2, .null, .int 0, .int 0, .int 0])), (q1, .inl (k 0, 5, .inl (fun _ => 0))), (q2, .inl (k 0, 5, .inl (fun _ => 0)))] H := hP
  have hD : va_D A [(h0, .inr (4, [.null, .ref q1, .ref q2, .null, .int 0, .int 0, .int 0])), (q1, .inl (k 0, 5, .inl (fun _ => 0))), (q2, .inl (k 0, 5, .inl (fun _ => 0)))] := hD
  refine lv_aload_n hx hb dX0_init_18 rfl (lv_at hl 0 rfl) ?_
  refine lv_iconst (v := 5) hx hb dX0_init_19 (by decide) ?_
  refine nw_int hC (hts _ (List.mem_cons_of_mem _ A_5)) hP hD hS (by decide) (N' := 5) (by decide) (Nat.le_of_ble_eq_true rfl) (Nat.le_of_ble_eq_true rfl) (Nat.le_of_ble_eq_true rfl) dX0_init_20 (fun q3 H hP hD hS => ?_)
  have hP : va_P D vwCl [(h0, .inr (4, [.null, .ref q1, .ref q2, .null, .int 0, .int 0, .int 0])), (q1, .inl (k 0, 5, .inl (fun _ => 0))), (q2, .inl (k 0, 5, .inl (fun _ => 0))), (q3, .inl (k 0, 5, .inl (fun _ => 0)))] H := hP
  have hD : va_D A [(h0, .inr (4, [.null, .ref q1, .ref q2, .null, .int 0, .int 0, .int 0])), (q1, .inl (k 0, 5, .inl (fun _ => 0))), (q2, .inl (k 0, 5, .inl (fun _ => 0))), (q3, .inl (k 0, 5, .inl (fun _ => 0)))] := hD
  refine va_putF (D := D) (ci := 4) (v := .ref q3) (ty := .array .int) (C := RX0) (T := TX0) (N := 7) hx hb hts hin_X0 tyX0 tyX0_ok nmX0 hown hK hP hD hS 0 rfl rfl 3 (by decide) hf_18 (fun _ h9 => h9) rfl hmn rfl (by decide +kernel) rfl rfl (Nat.le_of_ble_eq_true rfl) dX0_init_22 (fun H locs hP hD hS => ?_)
  have hP : va_P D vwCl [(h0, .inr (4, [.null, .ref q1, .ref q2, .ref q3, .int 0, .int 0, .int 0])), (q1, .inl (k 0, 5, .inl (fun _ => 0))), (q2, .inl (k 0, 5, .inl (fun _ => 0))), (q3, .inl (k 0, 5, .inl (fun _ => 0)))] H := hP
  have hD : va_D A [(h0, .inr (4, [.null, .ref q1, .ref q2, .ref q3, .int 0, .int 0, .int 0])), (q1, .inl (k 0, 5, .inl (fun _ => 0))), (q2, .inl (k 0, 5, .inl (fun _ => 0))), (q3, .inl (k 0, 5, .inl (fun _ => 0)))] := hD
  refine lv_aload_n hx hb dX0_init_25 rfl (lv_at hl 0 rfl) ?_
  refine lv_aload_n hx hb dX0_init_26 rfl (lv_at hl 1 rfl) ?_
  refine va_putF (D := D) (ci := 4) (v := .ref a1) (ty := .object "Meetjoin$Laws") (C := RX0) (T := TX0) (N := 7) hx hb hts hin_X0 tyX0 tyX0_ok nmX0 hown hK hP hD hS 0 rfl rfl 0 (by decide) hf_21 (fun _ h9 => h9) rfl hmn rfl (by decide +kernel) rfl rfl (Nat.le_of_ble_eq_true rfl) dX0_init_27 (fun H locs hP hD hS => ?_)
  have hP : va_P D vwCl [(h0, .inr (4, [.ref a1, .ref q1, .ref q2, .ref q3, .int 0, .int 0, .int 0])), (q1, .inl (k 0, 5, .inl (fun _ => 0))), (q2, .inl (k 0, 5, .inl (fun _ => 0))), (q3, .inl (k 0, 5, .inl (fun _ => 0)))] H := hP
  have hD : va_D A [(h0, .inr (4, [.ref a1, .ref q1, .ref q2, .ref q3, .int 0, .int 0, .int 0])), (q1, .inl (k 0, 5, .inl (fun _ => 0))), (q2, .inl (k 0, 5, .inl (fun _ => 0))), (q3, .inl (k 0, 5, .inl (fun _ => 0)))] := hD
  refine lv_aload_n hx hb dX0_init_30 rfl (lv_at hl 0 rfl) ?_
  refine va_get (D := D) (ci := 4) (C := RX0) (T := TX0) (N := 7) hx hb hts hin_X0 hown hK hP 0 rfl rfl 3 (by decide) hf_18 (fun _ h9 => h9) rfl dX0_init_31 ?_
  refine lv_iconst (v := (-1)) hx hb dX0_init_34 (by decide) ?_
  refine fw_cvS (As := [.ref q3, .int (-1)]) (rest := []) hC (c_J7_fill l D k q3 5 (fun _ => 0) (-1) (by decide)) (va_cwS 2 hts (gA_S A_11 A_12 A_13 A_0) rfl rfl rfl (by decide +kernel) ⟨Nat.le_of_ble_eq_true rfl, Nat.le_of_ble_eq_true rfl⟩) rfl hl.1 rfl (Nat.le_of_ble_eq_true rfl) dX0_init_35 ⟨Nat.le_of_ble_eq_true rfl, Nat.le_of_ble_eq_true rfl⟩ (P_one (p := 3) hP rfl) (D_one (p := 3) hD rfl) hS (Jn.cell (p := 3) hP hD rfl) (fun u9 H locs hP hD hS hu9 => ?_)
  obtain rfl := hu9
  have hP : va_P D vwCl [(h0, .inr (4, [.ref a1, .ref q1, .ref q2, .ref q3, .int 0, .int 0, .int 0])), (q1, .inl (k 0, 5, .inl (fun _ => 0))), (q2, .inl (k 0, 5, .inl (fun _ => 0))), (q3, .inl (k 0, 5, .inl (fl_row 5 (-1) (fun _ => 0))))] H := hP
  have hD : va_D A [(h0, .inr (4, [.ref a1, .ref q1, .ref q2, .ref q3, .int 0, .int 0, .int 0])), (q1, .inl (k 0, 5, .inl (fun _ => 0))), (q2, .inl (k 0, 5, .inl (fun _ => 0))), (q3, .inl (k 0, 5, .inl (fl_row 5 (-1) (fun _ => 0))))] := hD
  refine lv_aload_n hx hb dX0_init_38 rfl (lv_at hl 0 rfl) ?_
  refine lv_iconst (v := (-1)) hx hb dX0_init_39 (by decide) ?_
  refine va_put (D := D) (ci := 4) (v := .int (-1)) (ty := .int) (C := RX0) (T := TX0) (N := 7) hx hb hts hin_X0 tyX0 tyX0_ok nmX0 hown hK hP hD hS 0 rfl rfl 4 (by decide) hf_31 (fun _ h9 => h9) rfl (by decide +kernel) rfl rfl (Nat.le_of_ble_eq_true rfl) dX0_init_40 (fun H locs hP hD hS => ?_)
  have hP : va_P D vwCl [(h0, .inr (4, [.ref a1, .ref q1, .ref q2, .ref q3, .int (-1), .int 0, .int 0])), (q1, .inl (k 0, 5, .inl (fun _ => 0))), (q2, .inl (k 0, 5, .inl (fun _ => 0))), (q3, .inl (k 0, 5, .inl (fl_row 5 (-1) (fun _ => 0))))] H := hP
  have hD : va_D A [(h0, .inr (4, [.ref a1, .ref q1, .ref q2, .ref q3, .int (-1), .int 0, .int 0])), (q1, .inl (k 0, 5, .inl (fun _ => 0))), (q2, .inl (k 0, 5, .inl (fun _ => 0))), (q3, .inl (k 0, 5, .inl (fl_row 5 (-1) (fun _ => 0))))] := hD
  exact hret (fun i => ([q1, q2, q3] : List Nat).getD i 0) _ _ _ _ _ _ dX0_init_43 hP hD hS (Nat.le_of_ble_eq_true rfl) (Nat.le_of_ble_eq_true rfl) trivial
abbrev rm_X4_init : Room := { frames := 2, cells := 11, slots := 51, locals := 44 }
abbrev wq_X4_init : List Cond := Cond.code yX4_init cX4_init 2 none :: wALL
set_option maxHeartbeats 4000000 in
set_option maxRecDepth 100000 in
theorem c_X4_init (l : Launch) (D : va_G) (k : Nat → Nat) (h0 : Nat) (a1 : Nat) {sz : Nat} : Met l yX4_init wq_X4_init rm_X4_init (va_Pc [.ref h0, .ref a1] (Pw D k [(h0, .inr (8, [.null, .null, .null, .null, .null, .null, .int 0]))] sz)) (va_Qv (fun _ : Nat → Nat => True) (fun u => Bw D [(h0, .inr (8, [.null, .null, .null, .null, .null, .null, .int 0]))] sz [(h0, .inr (8, [.ref a1, .ref (u 1), .ref (u 3), .ref (u 5), .ref (u 7), .ref (u 0), .int 0])), ((u 0), .inl (k 0, 5, .inl (fl_row 5 (-1) (fun _ => 0)))), ((u 1), .inr (7, [.ref a1, .ref (u 2), .int 0])), ((u 2), .inl (k 0, 5, .inl (fun _ => 0))), ((u 3), .inr (7, [.ref a1, .ref (u 4), .int 0])), ((u 4), .inl (k 0, 5, .inl (fun _ => 0))), ((u 5), .inr (7, [.ref a1, .ref (u 6), .int 0])), ((u 6), .inl (k 0, 5, .inl (fun _ => 0))), ((u 7), .inr (4, [.ref a1, .ref (u 8), .ref (u 9), .ref (u 10), .int (-1), .int 0, .int 0])), ((u 8), .inl (k 0, 5, .inl (fun _ => 0))), ((u 9), .inl (k 0, 5, .inl (fun _ => 0))), ((u 10), .inl (k 0, 5, .inl (fl_row 5 (-1) (fun _ => 0))))]) (va_A [(h0, .inr (8, [.null, .null, .null, .null, .null, .null, .int 0]))] sz)) 11 51 (va_A [(h0, .inr (8, [.null, .null, .null, .null, .null, .null, .int 0]))] sz) := by
  refine fw_v (wf := fun u : Nat → Nat => [(h0, .inr (8, [.ref a1, .ref (u 1), .ref (u 3), .ref (u 5), .ref (u 7), .ref (u 0), .int 0])), ((u 0), .inl (k 0, 5, .inl (fl_row 5 (-1) (fun _ => 0)))), ((u 1), .inr (7, [.ref a1, .ref (u 2), .int 0])), ((u 2), .inl (k 0, 5, .inl (fun _ => 0))), ((u 3), .inr (7, [.ref a1, .ref (u 4), .int 0])), ((u 4), .inl (k 0, 5, .inl (fun _ => 0))), ((u 5), .inr (7, [.ref a1, .ref (u 6), .int 0])), ((u 6), .inl (k 0, 5, .inl (fun _ => 0))), ((u 7), .inr (4, [.ref a1, .ref (u 8), .ref (u 9), .ref (u 10), .int (-1), .int 0, .int 0])), ((u 8), .inl (k 0, 5, .inl (fun _ => 0))), ((u 9), .inl (k 0, 5, .inl (fun _ => 0))), ((u 10), .inl (k 0, 5, .inl (fl_row 5 (-1) (fun _ => 0))))]) (by decide) rfl (Nat.le_of_ble_eq_true rfl) ?_
  intro p e s m args below meth c A Q ls hC hP hD hl hmn hret
  obtain ⟨⟨hx, hb, hml, hown, hts⟩, hG, hA⟩ := id hC
  have hK := hG.1
  have hS : va_S A s.heap s.heap [] := va_S.rf
  have hin_X4 : ∀ w ∈ u_ws RX4 TX4 7, w ∈ wq_X4_init := fun w h => List.mem_cons_of_mem _ (iU_X4 w h)
  have hf_9 := hts _ (List.mem_cons_of_mem _ A_125)
  have hf_15 := hts _ (List.mem_cons_of_mem _ A_126)
  have hin_X3 : ∀ w ∈ u_ws RX3 TX3 3, w ∈ wq_X4_init := fun w h => List.mem_cons_of_mem _ (iU_X3 w h)
  have hf_24 := hts _ (List.mem_cons_of_mem _ A_129)
  have hf_28 := hts _ (List.mem_cons_of_mem _ A_130)
  have hf_31 := hts _ (List.mem_cons_of_mem _ A_131)
  have hin_X0 : ∀ w ∈ u_ws RX0 TX0 7, w ∈ wq_X4_init := fun w h => List.mem_cons_of_mem _ (iU_X0 w h)
  have hf_37 := hts _ (List.mem_cons_of_mem _ A_134)
  have hl : lv_has ls 2 [(0, .ref h0), (1, .ref a1)] := hl
  have hown : s.vm.findClass RX4 = some m.cls := hown
  refine lv_aload_n hx hb dX4_init_0 rfl (lv_at hl 0 rfl) ?_
  refine W.objInit hx hb hown (hts _ (List.mem_cons_of_mem _ A_124)) (hts _ (List.mem_cons_of_mem _ A_3)) (hts _ (List.mem_cons_of_mem _ A_4)) rfl (by rw [hml]; exact hl.1) rfl dX4_init_1 (Nat.le_of_ble_eq_true rfl) (Nat.le_of_ble_eq_true rfl) ?_
  refine W.eq (g2 := F0 m 4 ls []) rfl ?_
  refine lv_aload_n hx hb dX4_init_4 rfl (lv_at hl 0 rfl) ?_
  refine lv_iconst (v := 5) hx hb dX4_init_5 (by decide) ?_
  refine nw_int hC (hts _ (List.mem_cons_of_mem _ A_5)) hP hD hS (by decide) (N' := 5) (by decide) (Nat.le_of_ble_eq_true rfl) (Nat.le_of_ble_eq_true rfl) (Nat.le_of_ble_eq_true rfl) dX4_init_6 (fun q1 H hP hD hS => ?_)
  have hP : va_P D vwCl [(h0, .inr (8, [.null, .null, .null, .null, .null, .null, .int 0])), (q1, .inl (k 0, 5, .inl (fun _ => 0)))] H := hP
  have hD : va_D A [(h0, .inr (8, [.null, .null, .null, .null, .null, .null, .int 0])), (q1, .inl (k 0, 5, .inl (fun _ => 0)))] := hD
  refine va_putF (D := D) (ci := 8) (v := .ref q1) (ty := .array .int) (C := RX4) (T := TX4) (N := 7) hx hb hts hin_X4 tyX4 tyX4_ok nmX4 hown hK hP hD hS 0 rfl rfl 5 (by decide) hf_9 (fun _ h9 => h9) rfl hmn rfl (by decide +kernel) rfl rfl (Nat.le_of_ble_eq_true rfl) dX4_init_8 (fun H locs hP hD hS => ?_)
  have hP : va_P D vwCl [(h0, .inr (8, [.null, .null, .null, .null, .null, .ref q1, .int 0])), (q1, .inl (k 0, 5, .inl (fun _ => 0)))] H := hP
  have hD : va_D A [(h0, .inr (8, [.null, .null, .null, .null, .null, .ref q1, .int 0])), (q1, .inl (k 0, 5, .inl (fun _ => 0)))] := hD
  refine lv_aload_n hx hb dX4_init_11 rfl (lv_at hl 0 rfl) ?_
  refine lv_aload_n hx hb dX4_init_12 rfl (lv_at hl 1 rfl) ?_
  refine va_putF (D := D) (ci := 8) (v := .ref a1) (ty := .object "Meetjoin$Laws") (C := RX4) (T := TX4) (N := 7) hx hb hts hin_X4 tyX4 tyX4_ok nmX4 hown hK hP hD hS 0 rfl rfl 0 (by decide) hf_15 (fun _ h9 => h9) rfl hmn rfl (by decide +kernel) rfl rfl (Nat.le_of_ble_eq_true rfl) dX4_init_13 (fun H locs hP hD hS => ?_)
  have hP : va_P D vwCl [(h0, .inr (8, [.ref a1, .null, .null, .null, .null, .ref q1, .int 0])), (q1, .inl (k 0, 5, .inl (fun _ => 0)))] H := hP
  have hD : va_D A [(h0, .inr (8, [.ref a1, .null, .null, .null, .null, .ref q1, .int 0])), (q1, .inl (k 0, 5, .inl (fun _ => 0)))] := hD
  refine lv_aload_n hx hb dX4_init_16 rfl (lv_at hl 0 rfl) ?_
  refine va_new (ci := 7) (fs := [.null, .null, .int 0]) (C := RX3) (T := TX3) (N := 3) hx hb hts hin_X3 tyX3 tyX3_ok hown (hts _ (List.mem_cons_of_mem _ A_127)) (hts _ (List.mem_cons_of_mem _ A_128)) (hts _ (List.mem_cons_of_mem _ A_115)) hK hP hD hS hA rfl (fun j hj => by rcases (show j = 0 ∨ j = 1 ∨ j = 2 by omega) with rfl | rfl | rfl <;> rfl) (Nat.le_of_ble_eq_true rfl) (Nat.le_of_ble_eq_true rfl) dX4_init_17 (fun q2 H hP hD hS => ?_)
  have hP : va_P D vwCl [(h0, .inr (8, [.ref a1, .null, .null, .null, .null, .ref q1, .int 0])), (q1, .inl (k 0, 5, .inl (fun _ => 0))), (q2, .inr (7, [.null, .null, .int 0]))] H := hP
  have hD : va_D A [(h0, .inr (8, [.ref a1, .null, .null, .null, .null, .ref q1, .int 0])), (q1, .inl (k 0, 5, .inl (fun _ => 0))), (q2, .inr (7, [.null, .null, .int 0]))] := hD
  refine lv_dup hx hb dX4_init_20 rfl ?_
  refine lv_aload_n hx hb dX4_init_21 rfl (lv_at hl 1 rfl) ?_
  refine fw_cvI (As := [.ref a1]) (rest := [.ref q2, .ref h0]) hC (c_X3_init l D k q2 a1) (cwI 1 hts (gA_0 A_97) rfl rfl rfl (hts _ (List.mem_cons_of_mem _ A_115)) (hts _ (List.mem_cons_of_mem _ A_135)) (hts _ (List.mem_cons_of_mem _ A_136)) rfl (by decide +kernel) ⟨Nat.le_of_ble_eq_true rfl, Nat.le_of_ble_eq_true rfl⟩) rfl hl.1 rfl (Nat.le_of_ble_eq_true rfl) dX4_init_22 ⟨Nat.le_of_ble_eq_true rfl, Nat.le_of_ble_eq_true rfl⟩ (hP.sub [2] rfl) (hD.sub [2] (by decide) rfl) hS (Jn.part (wr := [(h0, .inr (8, [.ref a1, .null, .null, .null, .null, .ref q1, .int 0])), (q1, .inl (k 0, 5, .inl (fun _ => 0)))]) hP hD [2] [0, 1] rfl rfl (by decide) (by decide)) (fun u3 H locs hP hD hS _ => ?_)
  have hP : va_P D vwCl [(h0, .inr (8, [.ref a1, .null, .null, .null, .null, .ref q1, .int 0])), (q1, .inl (k 0, 5, .inl (fun _ => 0))), (q2, .inr (7, [.ref a1, .ref (u3 0), .int 0])), ((u3 0), .inl (k 0, 5, .inl (fun _ => 0)))] H := hP
  have hD : va_D A [(h0, .inr (8, [.ref a1, .null, .null, .null, .null, .ref q1, .int 0])), (q1, .inl (k 0, 5, .inl (fun _ => 0))), (q2, .inr (7, [.ref a1, .ref (u3 0), .int 0])), ((u3 0), .inl (k 0, 5, .inl (fun _ => 0)))] := hD
  refine va_putF (D := D) (ci := 8) (v := .ref q2) (ty := .object "Meetjoin$Meeting") (C := RX4) (T := TX4) (N := 7) hx hb hts hin_X4 tyX4 tyX4_ok nmX4 hown hK hP hD hS 0 rfl rfl 1 (by decide) hf_24 (fun _ h9 => h9) rfl hmn rfl (by decide +kernel) rfl rfl (Nat.le_of_ble_eq_true rfl) dX4_init_25 (fun H locs hP hD hS => ?_)
  have hP : va_P D vwCl [(h0, .inr (8, [.ref a1, .ref q2, .null, .null, .null, .ref q1, .int 0])), (q1, .inl (k 0, 5, .inl (fun _ => 0))), (q2, .inr (7, [.ref a1, .ref (u3 0), .int 0])), ((u3 0), .inl (k 0, 5, .inl (fun _ => 0)))] H := hP
  have hD : va_D A [(h0, .inr (8, [.ref a1, .ref q2, .null, .null, .null, .ref q1, .int 0])), (q1, .inl (k 0, 5, .inl (fun _ => 0))), (q2, .inr (7, [.ref a1, .ref (u3 0), .int 0])), ((u3 0), .inl (k 0, 5, .inl (fun _ => 0)))] := hD
  refine lv_aload_n hx hb dX4_init_28 rfl (lv_at hl 0 rfl) ?_
  refine va_new (ci := 7) (fs := [.null, .null, .int 0]) (C := RX3) (T := TX3) (N := 3) hx hb hts hin_X3 tyX3 tyX3_ok hown (hts _ (List.mem_cons_of_mem _ A_127)) (hts _ (List.mem_cons_of_mem _ A_128)) (hts _ (List.mem_cons_of_mem _ A_115)) hK hP hD hS hA rfl (fun j hj => by rcases (show j = 0 ∨ j = 1 ∨ j = 2 by omega) with rfl | rfl | rfl <;> rfl) (Nat.le_of_ble_eq_true rfl) (Nat.le_of_ble_eq_true rfl) dX4_init_29 (fun q4 H hP hD hS => ?_)
  have hP : va_P D vwCl [(h0, .inr (8, [.ref a1, .ref q2, .null, .null, .null, .ref q1, .int 0])), (q1, .inl (k 0, 5, .inl (fun _ => 0))), (q2, .inr (7, [.ref a1, .ref (u3 0), .int 0])), ((u3 0), .inl (k 0, 5, .inl (fun _ => 0))), (q4, .inr (7, [.null, .null, .int 0]))] H := hP
  have hD : va_D A [(h0, .inr (8, [.ref a1, .ref q2, .null, .null, .null, .ref q1, .int 0])), (q1, .inl (k 0, 5, .inl (fun _ => 0))), (q2, .inr (7, [.ref a1, .ref (u3 0), .int 0])), ((u3 0), .inl (k 0, 5, .inl (fun _ => 0))), (q4, .inr (7, [.null, .null, .int 0]))] := hD
  refine lv_dup hx hb dX4_init_32 rfl ?_
  refine lv_aload_n hx hb dX4_init_33 rfl (lv_at hl 1 rfl) ?_
  refine fw_cvI (As := [.ref a1]) (rest := [.ref q4, .ref h0]) hC (c_X3_init l D k q4 a1) (cwI 1 hts (gA_0 A_97) rfl rfl rfl (hts _ (List.mem_cons_of_mem _ A_115)) (hts _ (List.mem_cons_of_mem _ A_135)) (hts _ (List.mem_cons_of_mem _ A_136)) rfl (by decide +kernel) ⟨Nat.le_of_ble_eq_true rfl, Nat.le_of_ble_eq_true rfl⟩) rfl hl.1 rfl (Nat.le_of_ble_eq_true rfl) dX4_init_34 ⟨Nat.le_of_ble_eq_true rfl, Nat.le_of_ble_eq_true rfl⟩ (hP.sub [4] rfl) (hD.sub [4] (by decide) rfl) hS (Jn.part (wr := [(h0, .inr (8, [.ref a1, .ref q2, .null, .null, .null, .ref q1, .int 0])), (q1, .inl (k 0, 5, .inl (fun _ => 0))), (q2, .inr (7, [.ref a1, .ref (u3 0), .int 0])), ((u3 0), .inl (k 0, 5, .inl (fun _ => 0)))]) hP hD [4] [0, 1, 2, 3] rfl rfl (by decide) (by decide)) (fun u5 H locs hP hD hS _ => ?_)
  have hP : va_P D vwCl [(h0, .inr (8, [.ref a1, .ref q2, .null, .null, .null, .ref q1, .int 0])), (q1, .inl (k 0, 5, .inl (fun _ => 0))), (q2, .inr (7, [.ref a1, .ref (u3 0), .int 0])), ((u3 0), .inl (k 0, 5, .inl (fun _ => 0))), (q4, .inr (7, [.ref a1, .ref (u5 0), .int 0])), ((u5 0), .inl (k 0, 5, .inl (fun _ => 0)))] H := hP
  have hD : va_D A [(h0, .inr (8, [.ref a1, .ref q2, .null, .null, .null, .ref q1, .int 0])), (q1, .inl (k 0, 5, .inl (fun _ => 0))), (q2, .inr (7, [.ref a1, .ref (u3 0), .int 0])), ((u3 0), .inl (k 0, 5, .inl (fun _ => 0))), (q4, .inr (7, [.ref a1, .ref (u5 0), .int 0])), ((u5 0), .inl (k 0, 5, .inl (fun _ => 0)))] := hD
  refine va_putF (D := D) (ci := 8) (v := .ref q4) (ty := .object "Meetjoin$Meeting") (C := RX4) (T := TX4) (N := 7) hx hb hts hin_X4 tyX4 tyX4_ok nmX4 hown hK hP hD hS 0 rfl rfl 2 (by decide) hf_28 (fun _ h9 => h9) rfl hmn rfl (by decide +kernel) rfl rfl (Nat.le_of_ble_eq_true rfl) dX4_init_37 (fun H locs hP hD hS => ?_)
  have hP : va_P D vwCl [(h0, .inr (8, [.ref a1, .ref q2, .ref q4, .null, .null, .ref q1, .int 0])), (q1, .inl (k 0, 5, .inl (fun _ => 0))), (q2, .inr (7, [.ref a1, .ref (u3 0), .int 0])), ((u3 0), .inl (k 0, 5, .inl (fun _ => 0))), (q4, .inr (7, [.ref a1, .ref (u5 0), .int 0])), ((u5 0), .inl (k 0, 5, .inl (fun _ => 0)))] H := hP
  have hD : va_D A [(h0, .inr (8, [.ref a1, .ref q2, .ref q4, .null, .null, .ref q1, .int 0])), (q1, .inl (k 0, 5, .inl (fun _ => 0))), (q2, .inr (7, [.ref a1, .ref (u3 0), .int 0])), ((u3 0), .inl (k 0, 5, .inl (fun _ => 0))), (q4, .inr (7, [.ref a1, .ref (u5 0), .int 0])), ((u5 0), .inl (k 0, 5, .inl (fun _ => 0)))] := hD
  refine lv_aload_n hx hb dX4_init_40 rfl (lv_at hl 0 rfl) ?_
  refine va_new (ci := 7) (fs := [.null, .null, .int 0]) (C := RX3) (T := TX3) (N := 3) hx hb hts hin_X3 tyX3 tyX3_ok hown (hts _ (List.mem_cons_of_mem _ A_127)) (hts _ (List.mem_cons_of_mem _ A_128)) (hts _ (List.mem_cons_of_mem _ A_115)) hK hP hD hS hA rfl (fun j hj => by rcases (show j = 0 ∨ j = 1 ∨ j = 2 by omega) with rfl | rfl | rfl <;> rfl) (Nat.le_of_ble_eq_true rfl) (Nat.le_of_ble_eq_true rfl) dX4_init_41 (fun q6 H hP hD hS => ?_)
  have hP : va_P D vwCl [(h0, .inr (8, [.ref a1, .ref q2, .ref q4, .null, .null, .ref q1, .int 0])), (q1, .inl (k 0, 5, .inl (fun _ => 0))), (q2, .inr (7, [.ref a1, .ref (u3 0), .int 0])), ((u3 0), .inl (k 0, 5, .inl (fun _ => 0))), (q4, .inr (7, [.ref a1, .ref (u5 0), .int 0])), ((u5 0), .inl (k 0, 5, .inl (fun _ => 0))), (q6, .inr (7, [.null, .null, .int 0]))] H := hP
  have hD : va_D A [(h0, .inr (8, [.ref a1, .ref q2, .ref q4, .null, .null, .ref q1, .int 0])), (q1, .inl (k 0, 5, .inl (fun _ => 0))), (q2, .inr (7, [.ref a1, .ref (u3 0), .int 0])), ((u3 0), .inl (k 0, 5, .inl (fun _ => 0))), (q4, .inr (7, [.ref a1, .ref (u5 0), .int 0])), ((u5 0), .inl (k 0, 5, .inl (fun _ => 0))), (q6, .inr (7, [.null, .null, .int 0]))] := hD
  refine lv_dup hx hb dX4_init_44 rfl ?_
  refine lv_aload_n hx hb dX4_init_45 rfl (lv_at hl 1 rfl) ?_
  refine fw_cvI (As := [.ref a1]) (rest := [.ref q6, .ref h0]) hC (c_X3_init l D k q6 a1) (cwI 1 hts (gA_0 A_97) rfl rfl rfl (hts _ (List.mem_cons_of_mem _ A_115)) (hts _ (List.mem_cons_of_mem _ A_135)) (hts _ (List.mem_cons_of_mem _ A_136)) rfl (by decide +kernel) ⟨Nat.le_of_ble_eq_true rfl, Nat.le_of_ble_eq_true rfl⟩) rfl hl.1 rfl (Nat.le_of_ble_eq_true rfl) dX4_init_46 ⟨Nat.le_of_ble_eq_true rfl, Nat.le_of_ble_eq_true rfl⟩ (hP.sub [6] rfl) (hD.sub [6] (by decide) rfl) hS (Jn.part (wr := [(h0, .inr (8, [.ref a1, .ref q2, .ref q4, .null, .null, .ref q1, .int 0])), (q1, .inl (k 0, 5, .inl (fun _ => 0))), (q2, .inr (7, [.ref a1, .ref (u3 0), .int 0])), ((u3 0), .inl (k 0, 5, .inl (fun _ => 0))), (q4, .inr (7, [.ref a1, .ref (u5 0), .int 0])), ((u5 0), .inl (k 0, 5, .inl (fun _ => 0)))]) hP hD [6] [0, 1, 2, 3, 4, 5] rfl rfl (by decide) (by decide)) (fun u7 H locs hP hD hS _ => ?_)
  have hP : va_P D vwCl [(h0, .inr (8, [.ref a1, .ref q2, .ref q4, .null, .null, .ref q1, .int 0])), (q1, .inl (k 0, 5, .inl (fun _ => 0))), (q2, .inr (7, [.ref a1, .ref (u3 0), .int 0])), ((u3 0), .inl (k 0, 5, .inl (fun _ => 0))), (q4, .inr (7, [.ref a1, .ref (u5 0), .int 0])), ((u5 0), .inl (k 0, 5, .inl (fun _ => 0))), (q6, .inr (7, [.ref a1, .ref (u7 0), .int 0])), ((u7 0), .inl (k 0, 5, .inl (fun _ => 0)))] H := hP
  have hD : va_D A [(h0, .inr (8, [.ref a1, .ref q2, .ref q4, .null, .null, .ref q1, .int 0])), (q1, .inl (k 0, 5, .inl (fun _ => 0))), (q2, .inr (7, [.ref a1, .ref (u3 0), .int 0])), ((u3 0), .inl (k 0, 5, .inl (fun _ => 0))), (q4, .inr (7, [.ref a1, .ref (u5 0), .int 0])), ((u5 0), .inl (k 0, 5, .inl (fun _ => 0))), (q6, .inr (7, [.ref a1, .ref (u7 0), .int 0])), ((u7 0), .inl (k 0, 5, .inl (fun _ => 0)))] := hD
  refine va_putF (D := D) (ci := 8) (v := .ref q6) (ty := .object "Meetjoin$Meeting") (C := RX4) (T := TX4) (N := 7) hx hb hts hin_X4 tyX4 tyX4_ok nmX4 hown hK hP hD hS 0 rfl rfl 3 (by decide) hf_31 (fun _ h9 => h9) rfl hmn rfl (by decide +kernel) rfl rfl (Nat.le_of_ble_eq_true rfl) dX4_init_49 (fun H locs hP hD hS => ?_)
  have hP : va_P D vwCl [(h0, .inr (8, [.ref a1, .ref q2, .ref q4, .ref q6, .null, .ref q1, .int 0])), (q1, .inl (k 0, 5, .inl (fun _ => 0))), (q2, .inr (7, [.ref a1, .ref (u3 0), .int 0])), ((u3 0), .inl (k 0, 5, .inl (fun _ => 0))), (q4, .inr (7, [.ref a1, .ref (u5 0), .int 0])), ((u5 0), .inl (k 0, 5, .inl (fun _ => 0))), (q6, .inr (7, [.ref a1, .ref (u7 0), .int 0])), ((u7 0), .inl (k 0, 5, .inl (fun _ => 0)))] H := hP
  have hD : va_D A [(h0, .inr (8, [.ref a1, .ref q2, .ref q4, .ref q6, .null, .ref q1, .int 0])), (q1, .inl (k 0, 5, .inl (fun _ => 0))), (q2, .inr (7, [.ref a1, .ref (u3 0), .int 0])), ((u3 0), .inl (k 0, 5, .inl (fun _ => 0))), (q4, .inr (7, [.ref a1, .ref (u5 0), .int 0])), ((u5 0), .inl (k 0, 5, .inl (fun _ => 0))), (q6, .inr (7, [.ref a1, .ref (u7 0), .int 0])), ((u7 0), .inl (k 0, 5, .inl (fun _ => 0)))] := hD
  refine lv_aload_n hx hb dX4_init_52 rfl (lv_at hl 0 rfl) ?_
  refine va_new (ci := 4) (fs := [.null, .null, .null, .null, .int 0, .int 0, .int 0]) (C := RX0) (T := TX0) (N := 7) hx hb hts hin_X0 tyX0 tyX0_ok hown (hts _ (List.mem_cons_of_mem _ A_132)) (hts _ (List.mem_cons_of_mem _ A_133)) (hts _ (List.mem_cons_of_mem _ A_42)) hK hP hD hS hA rfl (fun j hj => by rcases (show j = 0 ∨ j = 1 ∨ j = 2 ∨ j = 3 ∨ j = 4 ∨ j = 5 ∨ j = 6 by omega) with rfl | rfl | rfl | rfl | rfl | rfl | rfl <;> rfl) (Nat.le_of_ble_eq_true rfl) (Nat.le_of_ble_eq_true rfl) dX4_init_53 (fun q8 H hP hD hS => ?_)
  have hP : va_P D vwCl [(h0, .inr (8, [.ref a1, .ref q2, .ref q4, .ref q6, .null, .ref q1, .int 0])), (q1, .inl (k 0, 5, .inl (fun _ => 0))), (q2, .inr (7, [.ref a1, .ref (u3 0), .int 0])), ((u3 0), .inl (k 0, 5, .inl (fun _ => 0))), (q4, .inr (7, [.ref a1, .ref (u5 0), .int 0])), ((u5 0), .inl (k 0, 5, .inl (fun _ => 0))), (q6, .inr (7, [.ref a1, .ref (u7 0), .int 0])), ((u7 0), .inl (k 0, 5, .inl (fun _ => 0))), (q8, .inr (4, [.null, .null, .null, .null, .int 0, .int 0, .int 0]))] H := hP
  have hD : va_D A [(h0, .inr (8, [.ref a1, .ref q2, .ref q4, .ref q6, .null, .ref q1, .int 0])), (q1, .inl (k 0, 5, .inl (fun _ => 0))), (q2, .inr (7, [.ref a1, .ref (u3 0), .int 0])), ((u3 0), .inl (k 0, 5, .inl (fun _ => 0))), (q4, .inr (7, [.ref a1, .ref (u5 0), .int 0])), ((u5 0), .inl (k 0, 5, .inl (fun _ => 0))), (q6, .inr (7, [.ref a1, .ref (u7 0), .int 0])), ((u7 0), .inl (k 0, 5, .inl (fun _ => 0))), (q8, .inr (4, [.null, .null, .null, .null, .int 0, .int 0, .int 0]))] := hD
  refine lv_dup hx hb dX4_init_56 rfl ?_
  refine lv_aload_n hx hb dX4_init_57 rfl (lv_at hl 1 rfl) ?_
  refine fw_cvI (As := [.ref a1]) (rest := [.ref q8, .ref h0]) hC (c_X0_init l D k q8 a1) (cwI 1 hts (gA_0 A_1) rfl rfl rfl (hts _ (List.mem_cons_of_mem _ A_42)) (hts _ (List.mem_cons_of_mem _ A_137)) (hts _ (List.mem_cons_of_mem _ A_138)) rfl (by decide +kernel) ⟨Nat.le_of_ble_eq_true rfl, Nat.le_of_ble_eq_true rfl⟩) rfl hl.1 rfl (Nat.le_of_ble_eq_true rfl) dX4_init_58 ⟨Nat.le_of_ble_eq_true rfl, Nat.le_of_ble_eq_true rfl⟩ (hP.sub [8] rfl) (hD.sub [8] (by decide) rfl) hS (Jn.part (wr := [(h0, .inr (8, [.ref a1, .ref q2, .ref q4, .ref q6, .null, .ref q1, .int 0])), (q1, .inl (k 0, 5, .inl (fun _ => 0))), (q2, .inr (7, [.ref a1, .ref (u3 0), .int 0])), ((u3 0), .inl (k 0, 5, .inl (fun _ => 0))), (q4, .inr (7, [.ref a1, .ref (u5 0), .int 0])), ((u5 0), .inl (k 0, 5, .inl (fun _ => 0))), (q6, .inr (7, [.ref a1, .ref (u7 0), .int 0])), ((u7 0), .inl (k 0, 5, .inl (fun _ => 0)))]) hP hD [8] [0, 1, 2, 3, 4, 5, 6, 7] rfl rfl (by decide) (by decide)) (fun u9 H locs hP hD hS _ => ?_)
  have hP : va_P D vwCl [(h0, .inr (8, [.ref a1, .ref q2, .ref q4, .ref q6, .null, .ref q1, .int 0])), (q1, .inl (k 0, 5, .inl (fun _ => 0))), (q2, .inr (7, [.ref a1, .ref (u3 0), .int 0])), ((u3 0), .inl (k 0, 5, .inl (fun _ => 0))), (q4, .inr (7, [.ref a1, .ref (u5 0), .int 0])), ((u5 0), .inl (k 0, 5, .inl (fun _ => 0))), (q6, .inr (7, [.ref a1, .ref (u7 0), .int 0])), ((u7 0), .inl (k 0, 5, .inl (fun _ => 0))), (q8, .inr (4, [.ref a1, .ref (u9 0), .ref (u9 1), .ref (u9 2), .int (-1), .int 0, .int 0])), ((u9 0), .inl (k 0, 5, .inl (fun _ => 0))), ((u9 1), .inl (k 0, 5, .inl (fun _ => 0))), ((u9 2), .inl (k 0, 5, .inl (fl_row 5 (-1) (fun _ => 0))))] H := hP
  have hD : va_D A [(h0, .inr (8, [.ref a1, .ref q2, .ref q4, .ref q6, .null, .ref q1, .int 0])), (q1, .inl (k 0, 5, .inl (fun _ => 0))), (q2, .inr (7, [.ref a1, .ref (u3 0), .int 0])), ((u3 0), .inl (k 0, 5, .inl (fun _ => 0))), (q4, .inr (7, [.ref a1, .ref (u5 0), .int 0])), ((u5 0), .inl (k 0, 5, .inl (fun _ => 0))), (q6, .inr (7, [.ref a1, .ref (u7 0), .int 0])), ((u7 0), .inl (k 0, 5, .inl (fun _ => 0))), (q8, .inr (4, [.ref a1, .ref (u9 0), .ref (u9 1), .ref (u9 2), .int (-1), .int 0, .int 0])), ((u9 0), .inl (k 0, 5, .inl (fun _ => 0))), ((u9 1), .inl (k 0, 5, .inl (fun _ => 0))), ((u9 2), .inl (k 0, 5, .inl (fl_row 5 (-1) (fun _ => 0))))] := hD
  refine va_putF (D := D) (ci := 8) (v := .ref q8) (ty := .object "Meetjoin$Chooser") (C := RX4) (T := TX4) (N := 7) hx hb hts hin_X4 tyX4 tyX4_ok nmX4 hown hK hP hD hS 0 rfl rfl 4 (by decide) hf_37 (fun _ h9 => h9) rfl hmn rfl (by decide +kernel) rfl rfl (Nat.le_of_ble_eq_true rfl) dX4_init_61 (fun H locs hP hD hS => ?_)
  have hP : va_P D vwCl [(h0, .inr (8, [.ref a1, .ref q2, .ref q4, .ref q6, .ref q8, .ref q1, .int 0])), (q1, .inl (k 0, 5, .inl (fun _ => 0))), (q2, .inr (7, [.ref a1, .ref (u3 0), .int 0])), ((u3 0), .inl (k 0, 5, .inl (fun _ => 0))), (q4, .inr (7, [.ref a1, .ref (u5 0), .int 0])), ((u5 0), .inl (k 0, 5, .inl (fun _ => 0))), (q6, .inr (7, [.ref a1, .ref (u7 0), .int 0])), ((u7 0), .inl (k 0, 5, .inl (fun _ => 0))), (q8, .inr (4, [.ref a1, .ref (u9 0), .ref (u9 1), .ref (u9 2), .int (-1), .int 0, .int 0])), ((u9 0), .inl (k 0, 5, .inl (fun _ => 0))), ((u9 1), .inl (k 0, 5, .inl (fun _ => 0))), ((u9 2), .inl (k 0, 5, .inl (fl_row 5 (-1) (fun _ => 0))))] H := hP
  have hD : va_D A [(h0, .inr (8, [.ref a1, .ref q2, .ref q4, .ref q6, .ref q8, .ref q1, .int 0])), (q1, .inl (k 0, 5, .inl (fun _ => 0))), (q2, .inr (7, [.ref a1, .ref (u3 0), .int 0])), ((u3 0), .inl (k 0, 5, .inl (fun _ => 0))), (q4, .inr (7, [.ref a1, .ref (u5 0), .int 0])), ((u5 0), .inl (k 0, 5, .inl (fun _ => 0))), (q6, .inr (7, [.ref a1, .ref (u7 0), .int 0])), ((u7 0), .inl (k 0, 5, .inl (fun _ => 0))), (q8, .inr (4, [.ref a1, .ref (u9 0), .ref (u9 1), .ref (u9 2), .int (-1), .int 0, .int 0])), ((u9 0), .inl (k 0, 5, .inl (fun _ => 0))), ((u9 1), .inl (k 0, 5, .inl (fun _ => 0))), ((u9 2), .inl (k 0, 5, .inl (fl_row 5 (-1) (fun _ => 0))))] := hD
  refine lv_aload_n hx hb dX4_init_64 rfl (lv_at hl 0 rfl) ?_
  refine va_get (D := D) (ci := 8) (C := RX4) (T := TX4) (N := 7) hx hb hts hin_X4 hown hK hP 0 rfl rfl 5 (by decide) hf_9 (fun _ h9 => h9) rfl dX4_init_65 ?_
  refine lv_iconst (v := (-1)) hx hb dX4_init_68 (by decide) ?_
  refine fw_cvS (As := [.ref q1, .int (-1)]) (rest := []) hC (c_J7_fill l D k q1 5 (fun _ => 0) (-1) (by decide)) (va_cwS 2 hts (gA_S A_139 A_12 A_13 A_0) rfl rfl rfl (by decide +kernel) ⟨Nat.le_of_ble_eq_true rfl, Nat.le_of_ble_eq_true rfl⟩) rfl hl.1 rfl (Nat.le_of_ble_eq_true rfl) dX4_init_69 ⟨Nat.le_of_ble_eq_true rfl, Nat.le_of_ble_eq_true rfl⟩ (P_one (p := 1) hP rfl) (D_one (p := 1) hD rfl) hS (Jn.cell (p := 1) hP hD rfl) (fun u9 H locs hP hD hS hu9 => ?_)
  obtain rfl := hu9
  have hP : va_P D vwCl [(h0, .inr (8, [.ref a1, .ref q2, .ref q4, .ref q6, .ref q8, .ref q1, .int 0])), (q1, .inl (k 0, 5, .inl (fl_row 5 (-1) (fun _ => 0)))), (q2, .inr (7, [.ref a1, .ref (u3 0), .int 0])), ((u3 0), .inl (k 0, 5, .inl (fun _ => 0))), (q4, .inr (7, [.ref a1, .ref (u5 0), .int 0])), ((u5 0), .inl (k 0, 5, .inl (fun _ => 0))), (q6, .inr (7, [.ref a1, .ref (u7 0), .int 0])), ((u7 0), .inl (k 0, 5, .inl (fun _ => 0))), (q8, .inr (4, [.ref a1, .ref (u9 0), .ref (u9 1), .ref (u9 2), .int (-1), .int 0, .int 0])), ((u9 0), .inl (k 0, 5, .inl (fun _ => 0))), ((u9 1), .inl (k 0, 5, .inl (fun _ => 0))), ((u9 2), .inl (k 0, 5, .inl (fl_row 5 (-1) (fun _ => 0))))] H := hP
  have hD : va_D A [(h0, .inr (8, [.ref a1, .ref q2, .ref q4, .ref q6, .ref q8, .ref q1, .int 0])), (q1, .inl (k 0, 5, .inl (fl_row 5 (-1) (fun _ => 0)))), (q2, .inr (7, [.ref a1, .ref (u3 0), .int 0])), ((u3 0), .inl (k 0, 5, .inl (fun _ => 0))), (q4, .inr (7, [.ref a1, .ref (u5 0), .int 0])), ((u5 0), .inl (k 0, 5, .inl (fun _ => 0))), (q6, .inr (7, [.ref a1, .ref (u7 0), .int 0])), ((u7 0), .inl (k 0, 5, .inl (fun _ => 0))), (q8, .inr (4, [.ref a1, .ref (u9 0), .ref (u9 1), .ref (u9 2), .int (-1), .int 0, .int 0])), ((u9 0), .inl (k 0, 5, .inl (fun _ => 0))), ((u9 1), .inl (k 0, 5, .inl (fun _ => 0))), ((u9 2), .inl (k 0, 5, .inl (fl_row 5 (-1) (fun _ => 0))))] := hD
  exact hret (fun i => ([q1, q2, (u3 0), q4, (u5 0), q6, (u7 0), q8, (u9 0), (u9 1), (u9 2)] : List Nat).getD i 0) _ _ _ _ _ _ dX4_init_72 hP hD hS (Nat.le_of_ble_eq_true rfl) (Nat.le_of_ble_eq_true rfl) trivial
