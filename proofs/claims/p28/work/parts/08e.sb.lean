abbrev rm_J5_init_d00df : Room := { frames := 1, cells := 1, slots := 16, locals := 12 }
abbrev wq_J5_init_d00df : List Cond := Cond.code yJ5_init_d00df cJ5_init_d00df 2 none :: wALL
def wv_J5_init_d00df (k : Nat → Nat) (h0 : Nat)  (u : Nat → Nat) : va_W := [(h0, .inr (1, [.ref (u 0), .int 0, .int 0, .int 0])), ((u 0), .inl (k 4, 16, .inl (fun _ => 0)))]
set_option maxHeartbeats 4000000 in
set_option maxRecDepth 100000 in
theorem c_J5_init_d00df (l : Launch) (D : va_G) (k : Nat → Nat) (h0 : Nat)  {sz : Nat} : Met l yJ5_init_d00df wq_J5_init_d00df rm_J5_init_d00df (va_Pc [.ref h0, .int 16] (Pw D k [(h0, .inr (1, [.null, .int 0, .int 0, .int 0]))] sz)) (va_Qv (fun _ : Nat → Nat => True) (fun u => Bw D [(h0, .inr (1, [.null, .int 0, .int 0, .int 0]))] sz (wv_J5_init_d00df k h0  u)) (va_A [(h0, .inr (1, [.null, .int 0, .int 0, .int 0]))] sz)) 1 16 (va_A [(h0, .inr (1, [.null, .int 0, .int 0, .int 0]))] sz) := by
  refine fw_v (wf := fun u : Nat → Nat => wv_J5_init_d00df k h0  u) (by decide) rfl (Nat.le_of_ble_eq_true rfl) ?_
  intro p e s m args below meth c A Q ls hC hP hD hl hmn hret
  obtain ⟨⟨hx, hb, hml, hown, hts⟩, hG, hA⟩ := id hC
  have hK := hG.1
  have hS : va_S A s.heap s.heap [] := va_S.rf
  have hf_18 := hts _ (List.mem_cons_of_mem _ A_314)
  have hin_J4 : ∀ w ∈ u_ws RJ4 TJ4 4, w ∈ wq_J5_init_d00df := fun w h => List.mem_cons_of_mem _ (iU_J4 w h)
  have hf_15 := hts _ (List.mem_cons_of_mem _ A_315)
  have hf_22 := hts _ (List.mem_cons_of_mem _ A_316)
  have hl : lv_has ls 2 [(0, .ref h0), (1, .int 16)] := hl
  have hown : s.vm.findClass RJ5 = some m.cls := hown
  refine lv_aload_n hx hb dJ5_init_d00df_0 rfl (lv_at hl 0 rfl) ?_
  refine W.objInit hx hb hown (hts _ (List.mem_cons_of_mem _ A_313)) (hts _ (List.mem_cons_of_mem _ A_3)) (hts _ (List.mem_cons_of_mem _ A_4)) rfl (by rw [hml]; exact hl.1) rfl dJ5_init_d00df_1 (Nat.le_of_ble_eq_true rfl) (Nat.le_of_ble_eq_true rfl) ?_
  refine W.eq (g2 := F0 m 4 ls []) rfl ?_
  refine va_gets hx hb hG.2.2.2.2.2.1 hS hown hf_18 (fun _ h9 => h9) dJ5_init_d00df_4 ?_
  refine lv_if_eq (tgt := 25) hx hb dJ5_init_d00df_7 (by decide) (fun c9 => absurd c9 (by decide)) (fun _ => ?_)
  refine lv_aload_n hx hb dJ5_init_d00df_10 rfl (lv_at hl 0 rfl) ?_
  refine lv_iload_n hx hb dJ5_init_d00df_11 rfl (lv_at hl 1 rfl) ?_
  refine nw_byte hC (hts _ (List.mem_cons_of_mem _ A_308)) hP hD hS (by decide) (N' := 16) (by decide) (Nat.le_of_ble_eq_true rfl) (Nat.le_of_ble_eq_true rfl) (Nat.le_of_ble_eq_true rfl) dJ5_init_d00df_12 (fun q1 H hP hD hS => ?_)
  have hP : va_P D vwCl [(h0, .inr (1, [.null, .int 0, .int 0, .int 0])), (q1, .inl (k 4, 16, .inl (fun _ => 0)))] H := hP
  have hD : va_D A [(h0, .inr (1, [.null, .int 0, .int 0, .int 0])), (q1, .inl (k 4, 16, .inl (fun _ => 0)))] := hD
  refine va_put (D := D) (ci := 1) (v := .ref q1) (ty := .array .byte) (C := RJ4) (T := TJ4) (N := 4) hx hb hts hin_J4 tyJ4 tyJ4_ok nmJ4 hown hK hP hD hS 0 rfl rfl 0 (by decide) hf_15 (fun _ h9 => h9) rfl (by decide +kernel) rfl rfl (Nat.le_of_ble_eq_true rfl) dJ5_init_d00df_14 (fun H locs hP hD hS => ?_)
  have hP : va_P D vwCl [(h0, .inr (1, [.ref q1, .int 0, .int 0, .int 0])), (q1, .inl (k 4, 16, .inl (fun _ => 0)))] H := hP
  have hD : va_D A [(h0, .inr (1, [.ref q1, .int 0, .int 0, .int 0])), (q1, .inl (k 4, 16, .inl (fun _ => 0)))] := hD
  refine lv_aload_n hx hb dJ5_init_d00df_17 rfl (lv_at hl 0 rfl) ?_
  refine lv_iconst (v := 0) hx hb dJ5_init_d00df_18 (by decide) ?_
  refine va_put (D := D) (ci := 1) (v := .int 0) (ty := .byte) (C := RJ4) (T := TJ4) (N := 4) hx hb hts hin_J4 tyJ4 tyJ4_ok nmJ4 hown hK hP hD hS 0 rfl rfl 1 (by decide) hf_22 (fun _ h9 => h9) rfl (by decide +kernel) (by decide) (by decide) (Nat.le_of_ble_eq_true rfl) dJ5_init_d00df_19 (fun H locs hP hD hS => ?_)
  have hP : va_P D vwCl [(h0, .inr (1, [.ref q1, .int 0, .int 0, .int 0])), (q1, .inl (k 4, 16, .inl (fun _ => 0)))] H := hP
  have hD : va_D A [(h0, .inr (1, [.ref q1, .int 0, .int 0, .int 0])), (q1, .inl (k 4, 16, .inl (fun _ => 0)))] := hD
  refine lv_goto (tgt := 38) hx hb dJ5_init_d00df_22 (by decide) ?_
  exact hret (fun i => ([q1] : List Nat).getD i 0) _ _ _ _ _ _ dJ5_init_d00df_38 hP hD hS (Nat.le_of_ble_eq_true rfl) (Nat.le_of_ble_eq_true rfl) trivial
abbrev rm_J4_init_da8c8 : Room := { frames := 2, cells := 1, slots := 16, locals := 33 }
abbrev wq_J4_init_da8c8 : List Cond := Cond.code yJ4_init_da8c8 cJ4_init_da8c8 1 none :: wALL
def wv_J4_init_da8c8 (k : Nat → Nat) (h0 : Nat)  (u : Nat → Nat) : va_W := [(h0, .inr (1, [.ref (u 0), .int 0, .int 0, .int 0])), ((u 0), .inl (k 4, 16, .inl (fun _ => 0)))]
set_option maxHeartbeats 4000000 in
set_option maxRecDepth 100000 in
theorem c_J4_init_da8c8 (l : Launch) (D : va_G) (k : Nat → Nat) (h0 : Nat)  {sz : Nat} : Met l yJ4_init_da8c8 wq_J4_init_da8c8 rm_J4_init_da8c8 (va_Pc [.ref h0] (Pw D k [(h0, .inr (1, [.null, .int 0, .int 0, .int 0]))] sz)) (va_Qv (fun _ : Nat → Nat => True) (fun u => Bw D [(h0, .inr (1, [.null, .int 0, .int 0, .int 0]))] sz (wv_J4_init_da8c8 k h0  u)) (va_A [(h0, .inr (1, [.null, .int 0, .int 0, .int 0]))] sz)) 1 16 (va_A [(h0, .inr (1, [.null, .int 0, .int 0, .int 0]))] sz) := by
  refine fw_v (wf := fun u : Nat → Nat => wv_J4_init_da8c8 k h0  u) (by decide) rfl (Nat.le_of_ble_eq_true rfl) ?_
  intro p e s m args below meth c A Q ls hC hP hD hl hmn hret
  obtain ⟨⟨hx, hb, hml, hown, hts⟩, hG, hA⟩ := id hC
  have hK := hG.1
  have hS : va_S A s.heap s.heap [] := va_S.rf
  have hl : lv_has ls 1 [(0, .ref h0)] := hl
  have hown : s.vm.findClass RJ4 = some m.cls := hown
  refine lv_aload_n hx hb dJ4_init_da8c8_0 rfl (lv_at hl 0 rfl) ?_
  refine lv_bipush (v := 16) hx hb dJ4_init_da8c8_1 (by decide) ?_
  refine fw_cvI (As := [.int 16]) (rest := []) hC (c_J5_init_d00df l D k h0 ) (cwI 1 hts (gA_0 A_312) rfl rfl rfl (hts _ (List.mem_cons_of_mem _ A_322)) (hts _ (List.mem_cons_of_mem _ A_320)) (hts _ (List.mem_cons_of_mem _ A_321)) rfl (by decide +kernel) ⟨Nat.le_of_ble_eq_true rfl, Nat.le_of_ble_eq_true rfl⟩) rfl hl.1 rfl (Nat.le_of_ble_eq_true rfl) dJ4_init_da8c8_3 ⟨Nat.le_of_ble_eq_true rfl, Nat.le_of_ble_eq_true rfl⟩ (hP.sub [0] rfl) (hD.sub [0] (by decide) rfl) hS (Jn.part (wr := []) hP hD [0] [] rfl rfl (by decide) (by decide)) (fun u1 H locs hP hD hS _ => ?_)
  have hP : va_P D vwCl [(h0, .inr (1, [.ref (u1 0), .int 0, .int 0, .int 0])), ((u1 0), .inl (k 4, 16, .inl (fun _ => 0)))] H := hP
  have hD : va_D A [(h0, .inr (1, [.ref (u1 0), .int 0, .int 0, .int 0])), ((u1 0), .inl (k 4, 16, .inl (fun _ => 0)))] := hD
  exact hret (fun i => ([(u1 0)] : List Nat).getD i 0) _ _ _ _ _ _ dJ4_init_da8c8_6 hP hD hS (Nat.le_of_ble_eq_true rfl) (Nat.le_of_ble_eq_true rfl) trivial
