abbrev rm_si3 : Room := { frames := 3, cells := 1, slots := 64, locals := 126 }
abbrev wq_si3 : List Cond := Cond.code yJ0_init_db425 cJ0_init_db425 5 none :: wALL
set_option maxHeartbeats 4000000 in
set_option maxRecDepth 100000 in
theorem c_si3 (l : Launch) (D : va_G) (k : Nat → Nat) (ad : Nat → Nat) (n c7 : Nat) (σ : Mem) (q : Nat) (hc : c7 < n) (hn : n ≤ 64) (hfit : sb_Fit (σ 1)) (e1 : σ 0 1 = 0) (e3 : σ 0 3 = nI c7) {sz : Nat} : Met l yJ0_init_db425 wq_si3 rm_si3 (va_Pc [.ref q, .ref (ad 0), .null] (Pw D k (WB k ad n σ ++ [(q, .inr (0, [.null, .int 0, .int 0, .int 0]))]) sz)) (va_Qv (fun _ : Nat => True) (fun u => Bw D (WB k ad n σ ++ [(q, .inr (0, [.null, .int 0, .int 0, .int 0]))]) sz ((WB k ad n σ ++ [(q, .inr (0, [.ref u, .int 0, .int 0, .int 0]))]) ++ [(u, .inl (k 4, c7, .inl (va_cpy (σ 1) (fun _ => 0) 0 0 c7)))])) (va_A (WB k ad n σ ++ [(q, .inr (0, [.null, .int 0, .int 0, .int 0]))]) sz)) 1 64 (va_A (WB k ad n σ ++ [(q, .inr (0, [.null, .int 0, .int 0, .int 0]))]) sz) := by
  refine fw_v (post := fun _ : Nat => True) (y := yJ0_init_db425) (wsy := wq_si3) (cc := cJ0_init_db425) (maxL := 5) (rm := rm_si3) (mc := 1) (ms := 64) (D := D) (k := k) (W0 := WB k ad n σ ++ [(q, .inr (0, [.null, .int 0, .int 0, .int 0]))]) (av := [.ref q, .ref (ad 0), .null]) (wf := fun u : Nat => (WB k ad n σ ++ [(q, .inr (0, [.ref u, .int 0, .int 0, .int 0]))]) ++ [(u, .inl (k 4, c7, .inl (va_cpy (σ 1) (fun _ => 0) 0 0 c7)))]) (by decide) rfl (Nat.le_of_ble_eq_true rfl) ?_
  intro p e s m args below meth c A Q ls hC hP hD hl hmn hret
  obtain ⟨⟨hx, hb, hml, hown, hts⟩, hG, hA⟩ := id hC
  have hK := hG.1
  have hS : va_S A s.heap s.heap [] := va_S.rf
  have hin_J0 : ∀ w ∈ u_ws RJ0 TJ0 4, w ∈ wq_si3 := fun w h => List.mem_cons_of_mem _ (iU_J0 w h)
  have hf_15 := hts _ (List.mem_cons_of_mem _ A_476)
  have hf_9 := hts _ (List.mem_cons_of_mem _ A_477)
  have hl : lv_has ls 5 [(0, .ref q), (1, .ref (ad 0)), (2, .null)] := hl
  have hown : s.vm.findClass RJ0 = some m.cls := hown
  refine lv_aload_n hx hb dJ0_init_db425_0 rfl (lv_at hl 0 rfl) ?_
  refine W.objInit hx hb hown (hts _ (List.mem_cons_of_mem _ A_475)) (hts _ (List.mem_cons_of_mem _ A_3)) (hts _ (List.mem_cons_of_mem _ A_4)) rfl (by rw [hml]; exact hl.1) rfl dJ0_init_db425_1 (Nat.le_of_ble_eq_true rfl) (Nat.le_of_ble_eq_true rfl) ?_
  refine W.eq (g2 := F0 m 4 ls []) rfl ?_
  refine lv_aload_n hx hb dJ0_init_db425_4 rfl (lv_at hl 1 rfl) ?_
  refine fw_crU (post := fun r u => (ad 1) = r ∧ σ = u) (wf := fun u : Mem => WB k ad n u) (wN := fun u : Mem => WB k ad n u ++ [(q, .inr (0, [.null, .int 0, .int 0, .int 0]))]) (As := []) (rest := []) hC (c_J5_getValue_6d5f1 l D k ad n (σ := σ) (post := fun r u => (ad 1) = r ∧ σ = u) ⟨rfl, rfl⟩) (va_cwU 0 hts (gA_U (x := ⟨"java/lang/AbstractStringBuilder", "getValue", "()[B"⟩) (y := yJ5_getValue_6d5f1) (owner := "java/lang/AbstractStringBuilder") A_480 A_481 A_482 A_483 A_322 A_449) rfl rfl rfl rfl ⟨by decide, by decide, by decide +kernel⟩ ⟨(Nat.le_of_ble_eq_true rfl), (Nat.le_of_ble_eq_true rfl)⟩) (va_recv hK hP (ci := 1) (q0 := 0) rfl rfl) rfl hl.1 rfl (Nat.le_of_ble_eq_true rfl) dJ0_init_db425_5 ⟨(Nat.le_of_ble_eq_true rfl), (Nat.le_of_ble_eq_true rfl)⟩ (P_left hP) (D_left hD) hS (Jn.left hP hD) (fun r7 u7 H locs hP hD hS hp7 => ?_)
  obtain ⟨hr7, hu7⟩ := hp7
  subst hu7
  subst hr7
  refine lv_astore_n (lv' := [(3, .ref (ad 1)), (0, .ref q), (1, .ref (ad 0)), (2, .null)]) hx hb dJ0_init_db425_8 rfl hl (by decide) rfl (fun ls hl => ?_)
  refine lv_aload_n hx hb dJ0_init_db425_9 rfl (lv_at hl 2 rfl) ?_
  refine fw_ciU (post := fun r u => (nI c7) = r ∧ σ = u) (wf := fun u : Mem => WB k ad n u) (wN := fun u : Mem => WB k ad n u ++ [(q, .inr (0, [.null, .int 0, .int 0, .int 0]))]) (As := []) (rest := []) hC (c_J4_length_8abf5 l D k ad n (σ := σ) (post := fun r u => (nI c7) = r ∧ σ = u) ⟨e3.symm, rfl⟩) (va_cwO 0 hts (gA_O (x := ⟨"java/lang/AbstractStringBuilder", "length", "()I"⟩) (y := yJ4_length_8abf5) (owner := "java/lang/AbstractStringBuilder") A_484 A_453 A_485 A_486 A_487 A_458 A_451) rfl rfl rfl (List.mem_cons_of_mem _ A_450) ⟨by decide, by decide, by decide +kernel⟩ ⟨(Nat.le_of_ble_eq_true rfl), (Nat.le_of_ble_eq_true rfl)⟩) (va_recv hK hP (ci := 1) (q0 := 0) rfl rfl) rfl hl.1 rfl (Nat.le_of_ble_eq_true rfl) dJ0_init_db425_10 ⟨(Nat.le_of_ble_eq_true rfl), (Nat.le_of_ble_eq_true rfl)⟩ (P_left hP) (D_left hD) hS (Jn.left hP hD) (fun r7 u7 H locs hP hD hS hp7 => ?_)
  obtain ⟨hr7, hu7⟩ := hp7
  subst hu7
  subst hr7
  refine lv_istore (lv' := [(4, .int (nI c7)), (3, .ref (ad 1)), (0, .ref q), (1, .ref (ad 0)), (2, .null)]) hx hb dJ0_init_db425_13 hl (by decide) rfl (fun ls hl => ?_)
  refine lv_aload_n hx hb dJ0_init_db425_15 rfl (lv_at hl 3 rfl) ?_
  refine fw_ciU (post := fun r u => 1 = r ∧ σ = u) (wf := fun u : Mem => WB k ad n u) (wN := fun u : Mem => WB k ad n u ++ [(q, .inr (0, [.null, .int 0, .int 0, .int 0]))]) (As := []) (rest := []) hC (c_J5_isLatin1_aae02 l D k ad n (σ := σ) (post := fun r u => 1 = r ∧ σ = u) ⟨fun h9 => absurd e1 h9, fun _ => ⟨bz1, rfl, rfl⟩⟩) (va_cwU 0 hts (gA_U (x := ⟨"java/lang/AbstractStringBuilder", "isLatin1", "()Z"⟩) (y := yJ5_isLatin1_aae02) (owner := "java/lang/AbstractStringBuilder") A_488 A_384 A_385 A_386 A_322 A_355) rfl rfl rfl rfl ⟨by decide, by decide, by decide +kernel⟩ ⟨(Nat.le_of_ble_eq_true rfl), (Nat.le_of_ble_eq_true rfl)⟩) (va_recv hK hP (ci := 1) (q0 := 0) rfl rfl) rfl hl.1 rfl (Nat.le_of_ble_eq_true rfl) dJ0_init_db425_16 ⟨(Nat.le_of_ble_eq_true rfl), (Nat.le_of_ble_eq_true rfl)⟩ (P_left hP) (D_left hD) hS (Jn.left hP hD) (fun r7 u7 H locs hP hD hS hp7 => ?_)
  obtain ⟨hr7, hu7⟩ := hp7
  subst hu7
  subst hr7
  refine lv_if_eq (tgt := 41) hx hb dJ0_init_db425_19 (by decide) (fun c9 => absurd c9 (by decide)) (fun _ => ?_)
  refine lv_aload_n hx hb dJ0_init_db425_22 rfl (lv_at hl 2 rfl) ?_
  refine lv_iconst (v := 0) hx hb dJ0_init_db425_23 (by decide) ?_
  refine va_putF (D := D) (ci := 0) (v := .int 0) (ty := .byte) (C := RJ0) (T := TJ0) (N := 4) hx hb hts hin_J0 tyJ0 tyJ0_ok nmJ0 hown hK hP hD hS 2 rfl rfl 1 (by decide) hf_15 (fun _ h9 => h9) rfl hmn rfl (by decide +kernel) (by decide) (by decide) (Nat.le_of_ble_eq_true rfl) dJ0_init_db425_24 (fun H locs hP hD hS => ?_)
  have hP : va_P D vwCl (WB k ad n σ ++ [(q, .inr (0, [.null, .int 0, .int 0, .int 0]))]) H := hP
  have hD : va_D A (WB k ad n σ ++ [(q, .inr (0, [.null, .int 0, .int 0, .int 0]))]) := hD
  refine lv_aload_n hx hb dJ0_init_db425_27 rfl (lv_at hl 2 rfl) ?_
  refine lv_aload_n hx hb dJ0_init_db425_28 rfl (lv_at hl 1 rfl) ?_
  refine lv_iconst (v := 0) hx hb dJ0_init_db425_29 (by decide) ?_
  refine lv_iload hx hb dJ0_init_db425_30 (lv_at hl 0 rfl) ?_
  refine fw_crS (S := Nat) (post := fun r u => r = u) (wf := fun u : Nat => [(ad 1, .inl (k 4, n, .inl (σ 1)))] ++ [(u, .inl (k 4, c7, .inl (va_cpy (σ 1) (fun _ => 0) 0 0 c7)))]) (wN := fun u : Nat => (WB k ad n σ ++ [(q, .inr (0, [.null, .int 0, .int 0, .int 0]))]) ++ [(u, .inl (k 4, c7, .inl (va_cpy (σ 1) (fun _ => 0) 0 0 c7)))]) (As := [.ref (ad 1), .int 0, .int (nI c7)]) (rest := [.ref q]) hC (c_crg l D k (ad 1) n c7 (σ 1) hc hn hfit) (va_cwS 3 hts (gA_S A_489 A_472 A_13 A_464) rfl rfl rfl (by decide +kernel) ⟨(Nat.le_of_ble_eq_true rfl), (Nat.le_of_ble_eq_true rfl)⟩) rfl hl.1 rfl (Nat.le_of_ble_eq_true rfl) dJ0_init_db425_32 ⟨(Nat.le_of_ble_eq_true rfl), (Nat.le_of_ble_eq_true rfl)⟩ (P_one (p := 1) hP rfl) (D_one (p := 1) hD rfl) hS (Jn.grow (y := fun u : Nat => (u, .inl (k 4, c7, .inl (va_cpy (σ 1) (fun _ => 0) 0 0 c7)))) hP hD [1] rfl) (fun r8 r9 H locs hP hD hS hr9 => ?_)
  obtain rfl : r8 = r9 := hr9
  refine va_putF (D := D) (ci := 0) (v := .ref r8) (ty := .array .byte) (C := RJ0) (T := TJ0) (N := 4) hx hb hts hin_J0 tyJ0 tyJ0_ok nmJ0 hown hK hP hD hS 2 rfl rfl 0 (by decide) hf_9 (fun _ h9 => h9) rfl hmn rfl (by decide +kernel) rfl rfl (Nat.le_of_ble_eq_true rfl) dJ0_init_db425_35 (fun H locs hP hD hS => ?_)
  have hP : va_P D vwCl ((WB k ad n σ ++ [(q, .inr (0, [.ref r8, .int 0, .int 0, .int 0]))]) ++ [(r8, .inl (k 4, c7, .inl (va_cpy (σ 1) (fun _ => 0) 0 0 c7)))]) H := hP
  have hD : va_D A ((WB k ad n σ ++ [(q, .inr (0, [.ref r8, .int 0, .int 0, .int 0]))]) ++ [(r8, .inl (k 4, c7, .inl (va_cpy (σ 1) (fun _ => 0) 0 0 c7)))]) := hD
  refine lv_goto (tgt := 97) hx hb dJ0_init_db425_38 (by decide) ?_
  exact hret r8 _ _ _ _ _ _ dJ0_init_db425_97 hP hD hS (Nat.le_of_ble_eq_true rfl) (by first | (show 0 + c7 ≤ 64; omega) | exact Nat.le_of_ble_eq_true rfl) trivial
abbrev rm_si2 : Room := { frames := 4, cells := 1, slots := 64, locals := 150 }
abbrev wq_si2 : List Cond := Cond.code yJ0_init_81219 cJ0_init_81219 2 none :: wALL
set_option maxHeartbeats 4000000 in
set_option maxRecDepth 100000 in
theorem c_si2 (l : Launch) (D : va_G) (k : Nat → Nat) (ad : Nat → Nat) (n c7 : Nat) (σ : Mem) (q : Nat) (hc : c7 < n) (hn : n ≤ 64) (hfit : sb_Fit (σ 1)) (e1 : σ 0 1 = 0) (e3 : σ 0 3 = nI c7) {sz : Nat} : Met l yJ0_init_81219 wq_si2 rm_si2 (va_Pc [.ref q, .ref (ad 0)] (Pw D k (WB k ad n σ ++ [(q, .inr (0, [.null, .int 0, .int 0, .int 0]))]) sz)) (va_Qv (fun _ : Nat => True) (fun u => Bw D (WB k ad n σ ++ [(q, .inr (0, [.null, .int 0, .int 0, .int 0]))]) sz ((WB k ad n σ ++ [(q, .inr (0, [.ref u, .int 0, .int 0, .int 0]))]) ++ [(u, .inl (k 4, c7, .inl (va_cpy (σ 1) (fun _ => 0) 0 0 c7)))])) (va_A (WB k ad n σ ++ [(q, .inr (0, [.null, .int 0, .int 0, .int 0]))]) sz)) 1 64 (va_A (WB k ad n σ ++ [(q, .inr (0, [.null, .int 0, .int 0, .int 0]))]) sz) := by
  refine fw_v (post := fun _ : Nat => True) (y := yJ0_init_81219) (wsy := wq_si2) (cc := cJ0_init_81219) (maxL := 2) (rm := rm_si2) (mc := 1) (ms := 64) (D := D) (k := k) (W0 := WB k ad n σ ++ [(q, .inr (0, [.null, .int 0, .int 0, .int 0]))]) (av := [.ref q, .ref (ad 0)]) (wf := fun u : Nat => (WB k ad n σ ++ [(q, .inr (0, [.ref u, .int 0, .int 0, .int 0]))]) ++ [(u, .inl (k 4, c7, .inl (va_cpy (σ 1) (fun _ => 0) 0 0 c7)))]) (by decide) rfl (Nat.le_of_ble_eq_true rfl) ?_
  intro p e s m args below meth c A Q ls hC hP hD hl hmn hret
  obtain ⟨⟨hx, hb, hml, hown, hts⟩, hG, hA⟩ := id hC
  have hK := hG.1
  have hS : va_S A s.heap s.heap [] := va_S.rf
  have hl : lv_has ls 2 [(0, .ref q), (1, .ref (ad 0))] := hl
  have hown : s.vm.findClass RJ0 = some m.cls := hown
  refine lv_aload_n hx hb dJ0_init_81219_0 rfl (lv_at hl 0 rfl) ?_
  refine lv_aload_n hx hb dJ0_init_81219_1 rfl (lv_at hl 1 rfl) ?_
  refine lv_null hx hb dJ0_init_81219_2 ?_
  refine fw_cvI (S := Nat) (post := fun _ => True) (wf := fun u : Nat => (WB k ad n σ ++ [(q, .inr (0, [.ref u, .int 0, .int 0, .int 0]))]) ++ [(u, .inl (k 4, c7, .inl (va_cpy (σ 1) (fun _ => 0) 0 0 c7)))]) (wN := fun u : Nat => (WB k ad n σ ++ [(q, .inr (0, [.ref u, .int 0, .int 0, .int 0]))]) ++ [(u, .inl (k 4, c7, .inl (va_cpy (σ 1) (fun _ => 0) 0 0 c7)))]) (As := [.ref (ad 0), .null]) (rest := []) hC (c_si3 l D k ad n c7 σ q hc hn hfit e1 e3) (cwI 2 hts (gA_0 A_494) rfl rfl rfl (hts _ (List.mem_cons_of_mem _ A_369)) (hts _ (List.mem_cons_of_mem _ A_495)) (hts _ (List.mem_cons_of_mem _ A_496)) rfl (by decide +kernel) ⟨(Nat.le_of_ble_eq_true rfl), (Nat.le_of_ble_eq_true rfl)⟩) rfl hl.1 rfl (Nat.le_of_ble_eq_true rfl) dJ0_init_81219_3 ⟨(Nat.le_of_ble_eq_true rfl), (Nat.le_of_ble_eq_true rfl)⟩ hP hD hS Jn.same (fun r8 H locs hP hD hS _ => ?_)
  exact hret r8 _ _ _ _ _ _ dJ0_init_81219_6 hP hD hS (Nat.le_of_ble_eq_true rfl) (by first | (show 0 + c7 ≤ 64; omega) | exact Nat.le_of_ble_eq_true rfl) trivial
abbrev rm_tos : Room := { frames := 5, cells := 2, slots := 68, locals := 171 }
abbrev wq_tos : List Cond := Cond.code yJ4_toString_0e30d cJ4_toString_0e30d 1 (some (.object "java/lang/String")) :: wALL
set_option maxHeartbeats 4000000 in
set_option maxRecDepth 100000 in
theorem c_tos (l : Launch) (D : va_G) (k : Nat → Nat) (ad : Nat → Nat) (n c7 : Nat) (σ : Mem) (hc : c7 < n) (hn : n ≤ 64) (hfit : sb_Fit (σ 1)) (e1 : σ 0 1 = 0) (e3 : σ 0 3 = nI c7) {sz : Nat} : Met l yJ4_toString_0e30d wq_tos rm_tos (va_Pc [.ref (ad 0)] (Pw D k (WB k ad n σ) sz)) (va_Qr (fun w9 : Nat × (Nat × Nat) => w9.1 = w9.2.1) (fun w9 a9 t9 => a9 = w9.1 ∧ Bw D (WB k ad n σ) sz ((WB k ad n σ ++ [(w9.2.1, .inr (0, [.ref w9.2.2, .int 0, .int 0, .int 0]))]) ++ [(w9.2.2, .inl (k 4, c7, .inl (va_cpy (σ 1) (fun _ => 0) 0 0 c7)))]) t9) (va_A (WB k ad n σ) sz)) 2 68 (va_A (WB k ad n σ) sz) := by
  refine fw_r (Or.inl ⟨_, rfl⟩) (post := fun r (u : Nat × Nat) => r = u.1) (y := yJ4_toString_0e30d) (wsy := wq_tos) (cc := cJ4_toString_0e30d) (maxL := 1) (rm := rm_tos) (mc := 2) (ms := 68) (D := D) (k := k) (W0 := WB k ad n σ) (av := [.ref (ad 0)]) (wf := fun u : Nat × Nat => (WB k ad n σ ++ [(u.1, .inr (0, [.ref u.2, .int 0, .int 0, .int 0]))]) ++ [(u.2, .inl (k 4, c7, .inl (va_cpy (σ 1) (fun _ => 0) 0 0 c7)))]) (by decide) rfl (Nat.le_of_ble_eq_true rfl) ?_
  intro p e s m args below meth c A Q ls hC hP hD hl hret
  obtain ⟨⟨hx, hb, hml, hown, hts⟩, hG, hA⟩ := id hC
  have hK := hG.1
  have hS : va_S A s.heap s.heap [] := va_S.rf
  have hin_J0 : ∀ w ∈ u_ws RJ0 TJ0 4, w ∈ wq_tos := fun w h => List.mem_cons_of_mem _ (iU_J0 w h)
  have hl : lv_has ls 1 [(0, .ref (ad 0))] := hl
  have hown : s.vm.findClass RJ4 = some m.cls := hown
  refine va_new (ci := 0) (fs := [.null, .int 0, .int 0, .int 0]) (C := RJ0) (T := TJ0) (N := 4) hx hb hts hin_J0 tyJ0 tyJ0_ok hown (hts _ (List.mem_cons_of_mem _ A_498)) (hts _ (List.mem_cons_of_mem _ A_499)) (hts _ (List.mem_cons_of_mem _ A_369)) hK hP hD hS hA rfl (fun j hj => by rcases (show j = 0 ∨ j = 1 ∨ j = 2 ∨ j = 3 by omega) with rfl | rfl | rfl | rfl <;> rfl) (Nat.le_of_ble_eq_true rfl) (Nat.le_of_ble_eq_true rfl) dJ4_toString_0e30d_0 (fun q H hP hD hS => ?_)
  refine lv_dup hx hb dJ4_toString_0e30d_3 rfl ?_
  refine lv_aload_n hx hb dJ4_toString_0e30d_4 rfl (lv_at hl 0 rfl) ?_
  refine fw_cvI (S := Nat) (post := fun _ => True) (wf := fun u : Nat => (WB k ad n σ ++ [(q, .inr (0, [.ref u, .int 0, .int 0, .int 0]))]) ++ [(u, .inl (k 4, c7, .inl (va_cpy (σ 1) (fun _ => 0) 0 0 c7)))]) (wN := fun u : Nat => (WB k ad n σ ++ [(q, .inr (0, [.ref u, .int 0, .int 0, .int 0]))]) ++ [(u, .inl (k 4, c7, .inl (va_cpy (σ 1) (fun _ => 0) 0 0 c7)))]) (As := [.ref (ad 0)]) (rest := [.ref q]) hC (c_si2 l D k ad n c7 σ q hc hn hfit e1 e3) (cwI 1 hts (gA_0 A_497) rfl rfl rfl (hts _ (List.mem_cons_of_mem _ A_369)) (hts _ (List.mem_cons_of_mem _ A_500)) (hts _ (List.mem_cons_of_mem _ A_501)) rfl (by decide +kernel) ⟨(Nat.le_of_ble_eq_true rfl), (Nat.le_of_ble_eq_true rfl)⟩) rfl hl.1 rfl (Nat.le_of_ble_eq_true rfl) dJ4_toString_0e30d_5 ⟨(Nat.le_of_ble_eq_true rfl), (Nat.le_of_ble_eq_true rfl)⟩ hP hD hS Jn.same (fun r8 H locs hP hD hS _ => ?_)
  exact hret q (q, r8) _ _ _ _ _ _ dJ4_toString_0e30d_8 hP hD hS (Nat.le_of_ble_eq_true rfl) (Nat.le_of_ble_eq_true rfl) rfl
