theorem len_lt (i : Nat) : ¬ (2147483631 : Int32) ≤ nI (([0, 1] : List Nat).getD i 0) := by
  match i with
  | 0 => decide
  | 1 => decide
  | _ + 2 => exact (show ¬ (2147483631 : Int32) ≤ nI 0 from by decide)
theorem len_16 (i : Nat) : nI (([0, 1] : List Nat).getD i 0) + 16 = nI (([0, 1] : List Nat).getD i 0 + 16) := by
  match i with
  | 0 => decide
  | 1 => decide
  | _ + 2 => exact (show nI 0 + 16 = nI 16 from by decide)

abbrev rm_ki5 : Room := { frames := 6, cells := 1, slots := 20, locals := 189 }
abbrev wq_ki5 : List Cond := Cond.code yJ5_init_a7421 cJ5_init_a7421 5 none :: wALL
set_option maxHeartbeats 4000000 in
set_option maxRecDepth 100000 in
theorem c_ki5 (l : Launch) (D : va_G) (k : Nat → Nat) (i : Nat) (hi : i < 2) (q : Nat) {post : (Nat → Nat) → Mem → Prop} (hp : ∀ bd : Nat → Nat, bd 0 = q → q_J4_append_cf1ce bd ((([0, 1] : List Nat).getD i 0) + 16) i (fun _ τ => post bd τ) (fun _ _ => 0)) {sz : Nat} : Met l yJ5_init_a7421 wq_ki5 rm_ki5 (va_Pc [.ref q, .ref (k (30 + i))] (Pw D k [(q, .inr (1, [.null, .int 0, .int 0, .int 0]))] sz)) (va_Qv (fun u : (Nat → Nat) × Mem => post u.1 u.2) (fun u => Bw D [(q, .inr (1, [.null, .int 0, .int 0, .int 0]))] sz (WB k u.1 ((([0, 1] : List Nat).getD i 0) + 16) u.2)) (va_A [(q, .inr (1, [.null, .int 0, .int 0, .int 0]))] sz)) 1 20 (va_A [(q, .inr (1, [.null, .int 0, .int 0, .int 0]))] sz) := by
  have k9 := (k_ln i).2.2
  refine fw_v (y := yJ5_init_a7421) (wsy := wq_ki5) (cc := cJ5_init_a7421) (maxL := 5) (rm := rm_ki5) (mc := 1) (ms := 20) (D := D) (k := k) (W0 := [(q, .inr (1, [.null, .int 0, .int 0, .int 0]))]) (av := [.ref q, .ref (k (30 + i))]) (post := fun u : (Nat → Nat) × Mem => post u.1 u.2) (wf := fun u : (Nat → Nat) × Mem => WB k u.1 ((([0, 1] : List Nat).getD i 0) + 16) u.2) (by decide) rfl (Nat.le_of_ble_eq_true rfl) ?_
  intro p e s m args below meth c A Q ls hC hP hD hl hmn hret
  obtain ⟨⟨hx, hb, hml, hown, hts⟩, hG, hA⟩ := id hC
  have hK := hG.1
  have hS : va_S A s.heap s.heap [] := va_S.rf
  have hin_J4 : ∀ w ∈ u_ws RJ4 TJ4 4, w ∈ wq_ki5 := fun w h => List.mem_cons_of_mem _ (iU_J4 w h)
  have hf_22 := hts _ (List.mem_cons_of_mem _ A_316)
  have hf_15 := hts _ (List.mem_cons_of_mem _ A_315)
  have hl : lv_has ls 5 [(0, .ref q), (1, .ref (k (30 + i)))] := hl
  have hown : s.vm.findClass RJ5 = some m.cls := hown
  refine lv_aload_n hx hb dJ5_init_a7421_0 rfl (lv_at hl 0 rfl) ?_
  refine W.objInit hx hb hown (hts _ (List.mem_cons_of_mem _ A_313)) (hts _ (List.mem_cons_of_mem _ A_3)) (hts _ (List.mem_cons_of_mem _ A_4)) rfl (by rw [hml]; exact hl.1) rfl dJ5_init_a7421_1 (Nat.le_of_ble_eq_true rfl) (Nat.le_of_ble_eq_true rfl) ?_
  refine W.eq (g2 := F0 m 4 ls []) rfl ?_
  refine lv_aload_n hx hb dJ5_init_a7421_4 rfl (lv_at hl 1 rfl) ?_
  refine fw_ciV (As := []) (rest := []) hC (c_J0_length_8abf5p l D k (fun _ => 0) 0 i hi (σ := fun _ _ => 0) (post := fun r _ => r = (nI (([0, 1] : List Nat).getD i 0))) (sb_shr0 _)) (cwV 0 hts (gA_V A_891 A_892 A_893 A_369 A_866) rfl rfl rfl (by decide +kernel) ⟨(Nat.le_of_ble_eq_true rfl), (Nat.le_of_ble_eq_true rfl)⟩) (vk_recv (adK := fun i => k (30 + i)) (i := i) hG.2.2.2.2.1.2.2 hi hS) rfl hl.1 rfl (Nat.le_of_ble_eq_true rfl) dJ5_init_a7421_5 ⟨(Nat.le_of_ble_eq_true rfl), (Nat.le_of_ble_eq_true rfl)⟩ P_nil D_nil hS (Jn.pure (w0 := fun _ : Mem => []) hP hD) (fun r7 σ7 H locs hP hD hS hr7 => ?_)
  obtain rfl : r7 = (nI (([0, 1] : List Nat).getD i 0)) := hr7
  refine lv_istore_n (lv' := [(2, .int (nI (([0, 1] : List Nat).getD i 0))), (0, .ref q), (1, .ref (k (30 + i)))]) hx hb dJ5_init_a7421_8 rfl hl (by decide) rfl (fun ls hl => ?_)
  refine lv_iload_n hx hb dJ5_init_a7421_9 rfl (lv_at hl 0 rfl) ?_
  refine lv_ldc (v := 2147483631) hx hb hown (hts _ (List.mem_cons_of_mem _ A_907)) dJ5_init_a7421_10 ?_
  refine lv_icmp_ge (tgt := 22) hx hb dJ5_init_a7421_12 (by decide) (fun h9 => absurd h9 (len_lt i)) (fun _ => ?_)
  refine lv_iload_n hx hb dJ5_init_a7421_15 rfl (lv_at hl 0 rfl) ?_
  refine lv_bipush (v := 16) hx hb dJ5_init_a7421_16 (by decide) ?_
  refine lv_iadd hx hb dJ5_init_a7421_18 ?_
  rw [len_16 i]
  refine lv_goto (tgt := 24) hx hb dJ5_init_a7421_19 (by decide) ?_
  refine lv_istore_n (lv' := [(3, .int (nI ((([0, 1] : List Nat).getD i 0) + 16))), (2, .int (nI (([0, 1] : List Nat).getD i 0))), (0, .ref q), (1, .ref (k (30 + i)))]) hx hb dJ5_init_a7421_24 rfl hl (by decide) rfl (fun ls hl => ?_)
  refine lv_aload_n hx hb dJ5_init_a7421_25 rfl (lv_at hl 3 rfl) ?_
  refine fw_ciV (As := []) (rest := []) hC (c_J0_coder_7d493p l D k (fun _ => 0) 0 i hi (σ := fun _ _ => 0) (post := fun r _ => r = 0) rfl) (cwV 0 hts (gA_V A_874 A_868 A_869 A_369 A_865) rfl rfl rfl (by decide +kernel) ⟨(Nat.le_of_ble_eq_true rfl), (Nat.le_of_ble_eq_true rfl)⟩) (vk_recv (adK := fun i => k (30 + i)) (i := i) hG.2.2.2.2.1.2.2 hi hS) rfl hl.1 rfl (Nat.le_of_ble_eq_true rfl) dJ5_init_a7421_26 ⟨(Nat.le_of_ble_eq_true rfl), (Nat.le_of_ble_eq_true rfl)⟩ P_nil D_nil hS (Jn.pure (w0 := fun _ : Mem => []) hP hD) (fun r7 σ7 H locs hP hD hS hr7 => ?_)
  obtain rfl : r7 = 0 := hr7
  refine lv_istore (lv' := [(4, .int 0), (3, .int (nI ((([0, 1] : List Nat).getD i 0) + 16))), (2, .int (nI (([0, 1] : List Nat).getD i 0))), (0, .ref q), (1, .ref (k (30 + i)))]) hx hb dJ5_init_a7421_29 hl (by decide) rfl (fun ls hl => ?_)
  refine lv_aload_n hx hb dJ5_init_a7421_31 rfl (lv_at hl 3 rfl) ?_
  refine lv_iload hx hb dJ5_init_a7421_32 (lv_at hl 0 rfl) ?_
  refine va_put (D := D) (ci := 1) (v := .int 0) (ty := .byte) (C := RJ4) (T := TJ4) (N := 4) hx hb hts hin_J4 tyJ4 tyJ4_ok nmJ4 hown hK hP hD hS 0 rfl rfl 1 (by decide) hf_22 (fun _ h9 => h9) rfl (by decide +kernel) (by decide) (by decide) (Nat.le_of_ble_eq_true rfl) dJ5_init_a7421_34 (fun H locs hP hD hS => ?_)
  refine lv_aload_n hx hb dJ5_init_a7421_37 rfl (lv_at hl 3 rfl) ?_
  refine lv_iload hx hb dJ5_init_a7421_38 (lv_at hl 0 rfl) ?_
  refine lv_if_ne (tgt := 49) hx hb dJ5_init_a7421_40 (by decide) (fun c9 => absurd c9 (by decide)) (fun _ => ?_)
  refine lv_iload_n hx hb dJ5_init_a7421_43 rfl (lv_at hl 1 rfl) ?_
  refine nw_byte hC (hts _ (List.mem_cons_of_mem _ A_308)) hP hD hS (nI_pos (by omega)) (N' := (([0, 1] : List Nat).getD i 0) + 16) (nI_clamp (by omega)) (by omega) (Nat.le_of_ble_eq_true rfl) (by show 0 + ((([0, 1] : List Nat).getD i 0) + 16) ≤ 20; omega) dJ5_init_a7421_44 (fun r9 H hP hD hS => ?_)
  refine lv_goto (tgt := 53) hx hb dJ5_init_a7421_46 (by decide) ?_
  refine va_put (D := D) (ci := 1) (v := .ref r9) (ty := .array .byte) (C := RJ4) (T := TJ4) (N := 4) hx hb hts hin_J4 tyJ4 tyJ4_ok nmJ4 hown hK hP hD hS 0 rfl rfl 0 (by decide) hf_15 (fun _ h9 => h9) rfl (by decide +kernel) rfl rfl (Nat.le_of_ble_eq_true rfl) dJ5_init_a7421_53 (fun H locs hP hD hS => ?_)
  obtain ⟨bd, hb0, hb1, hP9, hD9⟩ : ∃ bd : Nat → Nat, bd 0 = q ∧ bd 1 = r9 ∧ va_P D vwCl (WB k bd ((([0, 1] : List Nat).getD i 0) + 16) (fun _ _ => 0)) H ∧ va_D A (WB k bd ((([0, 1] : List Nat).getD i 0) + 16) (fun _ _ => 0)) := ⟨fun i => if i = 0 then q else r9, rfl, rfl, hP, hD⟩
  have hp9 := hp bd hb0
  subst hb0
  have hP := hP9
  have hD := hD9
  have hp := hp9
  refine lv_aload_n hx hb dJ5_init_a7421_56 rfl (lv_at hl 3 rfl) ?_
  refine lv_aload_n hx hb dJ5_init_a7421_57 rfl (lv_at hl 4 rfl) ?_
  refine fw_crU (wf := fun u : Mem => WB k bd ((([0, 1] : List Nat).getD i 0) + 16) u) (wN := fun u : Mem => WB k bd ((([0, 1] : List Nat).getD i 0) + 16) u) (As := [.ref (k (30 + i))]) (rest := []) hC (c_J4_append_cf1ce l D k bd ((([0, 1] : List Nat).getD i 0) + 16) i hi hp) (va_cwO 1 hts (gA_O (x := ⟨"java/lang/AbstractStringBuilder", "append", "(Ljava/lang/String;)Ljava/lang/AbstractStringBuilder;"⟩) (y := yJ4_append_cf1ce) (owner := "java/lang/AbstractStringBuilder") A_908 A_900 A_909 A_910 A_911 A_458 A_906) rfl rfl rfl (List.mem_cons_of_mem _ A_898) ⟨by decide, by decide, by decide +kernel⟩ ⟨(Nat.le_of_ble_eq_true rfl), (Nat.le_of_ble_eq_true rfl)⟩) (va_recv hK hP (ci := 1) (q0 := 0) rfl rfl) rfl hl.1 rfl (Nat.le_of_ble_eq_true rfl) dJ5_init_a7421_58 ⟨Nat.le_of_ble_eq_true rfl, (by show 0 + 0 + 0 + ((([0, 1] : List Nat).getD i 0) + 16) + 0 ≤ 20; omega)⟩ hP hD hS Jn.same (fun r8 τ H locs hP hD hS hp => ?_)
  refine lv_pop hx hb dJ5_init_a7421_61 rfl ?_
  exact hret (bd, τ) _ _ _ _ _ _ dJ5_init_a7421_62 hP hD hS (Nat.le_of_ble_eq_true rfl) (by first | (show 0 + 0 + 0 + ((([0, 1] : List Nat).getD i 0) + 16) + 0 ≤ 20; omega) | (show 0 + ((([0, 1] : List Nat).getD i 0) + 16) ≤ 20; omega)) hp
abbrev rm_ki4 : Room := { frames := 7, cells := 1, slots := 20, locals := 213 }
abbrev wq_ki4 : List Cond := Cond.code yJ4_init_a7421 cJ4_init_a7421 2 none :: wALL
set_option maxHeartbeats 4000000 in
set_option maxRecDepth 100000 in
theorem c_ki4 (l : Launch) (D : va_G) (k : Nat → Nat) (i : Nat) (hi : i < 2) (q : Nat) {post : (Nat → Nat) → Mem → Prop} (hp : ∀ bd : Nat → Nat, bd 0 = q → q_J4_append_cf1ce bd ((([0, 1] : List Nat).getD i 0) + 16) i (fun _ τ => post bd τ) (fun _ _ => 0)) {sz : Nat} : Met l yJ4_init_a7421 wq_ki4 rm_ki4 (va_Pc [.ref q, .ref (k (30 + i))] (Pw D k [(q, .inr (1, [.null, .int 0, .int 0, .int 0]))] sz)) (va_Qv (fun u : (Nat → Nat) × Mem => post u.1 u.2) (fun u => Bw D [(q, .inr (1, [.null, .int 0, .int 0, .int 0]))] sz (WB k u.1 ((([0, 1] : List Nat).getD i 0) + 16) u.2)) (va_A [(q, .inr (1, [.null, .int 0, .int 0, .int 0]))] sz)) 1 20 (va_A [(q, .inr (1, [.null, .int 0, .int 0, .int 0]))] sz) := by
  have k9 := (k_ln i).2.2
  refine fw_v (y := yJ4_init_a7421) (wsy := wq_ki4) (cc := cJ4_init_a7421) (maxL := 2) (rm := rm_ki4) (mc := 1) (ms := 20) (D := D) (k := k) (W0 := [(q, .inr (1, [.null, .int 0, .int 0, .int 0]))]) (av := [.ref q, .ref (k (30 + i))]) (post := fun u : (Nat → Nat) × Mem => post u.1 u.2) (wf := fun u : (Nat → Nat) × Mem => WB k u.1 ((([0, 1] : List Nat).getD i 0) + 16) u.2) (by decide) rfl (Nat.le_of_ble_eq_true rfl) ?_
  intro p e s m args below meth c A Q ls hC hP hD hl hmn hret
  obtain ⟨⟨hx, hb, hml, hown, hts⟩, hG, hA⟩ := id hC
  have hK := hG.1
  have hS : va_S A s.heap s.heap [] := va_S.rf
  have hl : lv_has ls 2 [(0, .ref q), (1, .ref (k (30 + i)))] := hl
  have hown : s.vm.findClass RJ4 = some m.cls := hown
  refine lv_aload_n hx hb dJ4_init_a7421_0 rfl (lv_at hl 0 rfl) ?_
  refine lv_aload_n hx hb dJ4_init_a7421_1 rfl (lv_at hl 1 rfl) ?_
  refine fw_cvI (S := (Nat → Nat) × Mem) (post := fun u => post u.1 u.2) (wf := fun u => WB k u.1 ((([0, 1] : List Nat).getD i 0) + 16) u.2) (wN := fun u => WB k u.1 ((([0, 1] : List Nat).getD i 0) + 16) u.2) (As := [.ref (k (30 + i))]) (rest := []) hC (c_ki5 l D k i hi q hp) (cwI 1 hts (gA_0 A_912) rfl rfl rfl (hts _ (List.mem_cons_of_mem _ A_322)) (hts _ (List.mem_cons_of_mem _ A_913)) (hts _ (List.mem_cons_of_mem _ A_914)) rfl (by decide +kernel) ⟨(Nat.le_of_ble_eq_true rfl), (Nat.le_of_ble_eq_true rfl)⟩) rfl hl.1 rfl (Nat.le_of_ble_eq_true rfl) dJ4_init_a7421_2 ⟨(Nat.le_of_ble_eq_true rfl), (Nat.le_of_ble_eq_true rfl)⟩ hP hD hS Jn.same (fun u9 H locs hP hD hS hp => ?_)
  exact hret u9 _ _ _ _ _ _ dJ4_init_a7421_5 hP hD hS (Nat.le_of_ble_eq_true rfl) (Nat.le_of_ble_eq_true rfl) hp
