abbrev rm_cp3 : Room := { frames := 1, cells := 1, slots := 33, locals := 80 }
abbrev wq_cp3 : List Cond := Cond.code yJ7_copyOf_6403c cJ7_copyOf_6403c 4 (some (.array (.object "java/lang/Object"))) :: wALL
set_option maxHeartbeats 4000000 in
set_option maxRecDepth 100000 in
theorem c_cp3 (l : Launch) (D : va_G) (k : Nat → Nat) (ws : va_W) (qa b n N : Nat) (f : Nat → Option Nat) (hqa : ws[qa]? = some (b, .inl (k 3, n, .inr (.inr (.inr (.inr f)))))) (hel : ∀ (i y : Nat), f i = some y → (∃ (j : Nat) (fs : List Value), ws[j]? = some (y, .inr (11, fs))) ∨ ∃ (j : Nat) (u : Nat → Int32), ws[j]? = some (y, .inl (k 0, 5, .inl u))) (hn : n ≤ N) (hN : N ≤ 33) {sz : Nat} : Met l yJ7_copyOf_6403c wq_cp3 rm_cp3 (va_Pc [.ref b, .int (nI N), .ref (k 20)] (Pw D k ws sz)) (va_Qr (fun w9 : Nat × Nat => w9.1 = w9.2) (fun w9 a9 t9 => a9 = w9.1 ∧ Bw D ws sz (ws ++ [(w9.2, .inl (k 3, N, .inr (.inr (.inr (.inr (va_cpy f (fun _ => none) 0 0 n))))))]) t9) (va_A ws sz)) 1 33 (va_A ws sz) := by
  refine fw_r (Or.inr ⟨_, rfl⟩) (post := fun r (u : Nat) => r = u) (y := yJ7_copyOf_6403c) (wsy := wq_cp3) (cc := cJ7_copyOf_6403c) (maxL := 4) (rm := rm_cp3) (mc := 1) (ms := 33) (D := D) (k := k) (W0 := ws) (av := [.ref b, .int (nI N), .ref (k 20)]) (wf := fun u : Nat => ws ++ [(u, .inl (k 3, N, .inr (.inr (.inr (.inr (va_cpy f (fun _ => none) 0 0 n))))))]) (by decide) rfl (Nat.le_of_ble_eq_true rfl) ?_
  intro p e s m args below meth c A Q ls hC hP hD hl hret
  obtain ⟨⟨hx, hb, hml, hown, hts⟩, hG, hA⟩ := id hC
  have hK := hG.1
  have hS : va_S A s.heap s.heap [] := va_S.rf
  have hl : lv_has ls 4 [(0, .ref b), (1, .int (nI N)), (2, .ref (k 20))] := hl
  have hown : s.vm.findClass RJ7 = some m.cls := hown
  refine lv_aload_n hx hb dJ7_copyOf_6403c_0 rfl (lv_at hl 2 rfl) ?_
  refine va_ldcM hx hb hown (hts _ (List.mem_cons_of_mem _ A_633)) hG.2.2.2.2.2.2.2.2.2.2.2.2.2.2.1.2 dJ7_copyOf_6403c_1 ?_
  refine lv_acmp_ne (rx := some (k 20)) (ry := some (k 20)) (tgt := 13) hx hb dJ7_copyOf_6403c_3 (by decide) (fun h9 => absurd rfl h9) (fun _ => ?_)
  refine lv_iload_n hx hb dJ7_copyOf_6403c_6 rfl (lv_at hl 1 rfl) ?_
  refine va_newq hx hb hown (hts _ (List.mem_cons_of_mem _ A_634)) hG.2.2.2.2.2.2.2.2.2.2.2.2.2.2.2.1 hK hP hD hS hA (N' := N) (nI_pos (by omega)) (nI_clamp (by omega)) (by omega) (Nat.le_of_ble_eq_true rfl) (by show 0 + N ≤ 33; omega) dJ7_copyOf_6403c_7 (fun r9 cA H hK9 hP hD hS => ?_)
  have h19 := va_nmO (nm := "[Ljava/lang/Object;") ((hK9.2 5 (cA, .object "java/lang/Object") rfl).2) (by decide +kernel)
  have h29 : cA = k 3 := Option.some.inj (h19.symm.trans hC.2.1.2.1.2.2.2.1)
  subst h29
  clear hK9 h19
  refine lv_goto (tgt := 24) hx hb dJ7_copyOf_6403c_10 (by decide) ?_
  refine lv_astore_n (lv' := [(3, .ref r9), (0, .ref b), (1, .int (nI N)), (2, .ref (k 20))]) hx hb dJ7_copyOf_6403c_24 rfl hl (by decide) rfl (fun ls hl => ?_)
  refine lv_aload_n hx hb dJ7_copyOf_6403c_25 rfl (lv_at hl 1 rfl) ?_
  refine lv_iconst (v := 0) hx hb dJ7_copyOf_6403c_26 (by decide) ?_
  refine lv_aload_n hx hb dJ7_copyOf_6403c_27 rfl (lv_at hl 0 rfl) ?_
  refine lv_iconst (v := 0) hx hb dJ7_copyOf_6403c_28 (by decide) ?_
  refine lv_aload_n hx hb dJ7_copyOf_6403c_29 rfl (lv_at hl 1 rfl) ?_
  refine va_alen hx hb hK hP qa 3 (app_l hqa) rfl (v := nI n) rfl dJ7_copyOf_6403c_30 ?_
  refine lv_iload_n hx hb dJ7_copyOf_6403c_31 rfl (lv_at hl 2 rfl) ?_
  refine va_mmin (x := (nI n)) (y := (nI N)) hx hb (by rw [hml]; exact hl.1.symm) hown (hts _ (List.mem_cons_of_mem _ A_344)) (hts _ (List.mem_cons_of_mem _ A_345)) (hts _ (List.mem_cons_of_mem _ A_328)) (hts _ (List.mem_cons_of_mem _ A_346)) (Nat.le_of_ble_eq_true rfl) (Nat.le_of_ble_eq_true rfl) (by first | exact Nat.zero_le _ | exact Nat.le_of_ble_eq_true rfl) (by first | exact Nat.zero_le _ | (show 0 + N ≤ 33; omega)) dJ7_copyOf_6403c_32 ?_
  rw [if_neg (nI_nlt hn (by omega))]
  refine va_copyM hx hb (by rw [hml]; exact hl.1.symm) hown (hts _ (List.mem_cons_of_mem _ A_347)) (hts _ (List.mem_cons_of_mem _ A_35)) (hts _ (List.mem_cons_of_mem _ A_36)) (hts _ (List.mem_cons_of_mem _ A_37)) hK hP hD hS qa (ws.length + 0) 3 3 (app_l hqa) (app_r rfl) rfl rfl (by decide) (by decide) (nI_pos (by omega)) (by rw [nI_clamp (by omega)]; show 0 + n ≤ n; omega) (by rw [nI_clamp (by omega)]; show 0 + n ≤ N; omega) (fun i9 _ y9 hy9 => ?_) (Nat.le_of_ble_eq_true rfl) (by decide +kernel) dJ7_copyOf_6403c_35 (fun H locs hP hD hS => ?_)
  · exact el_any hG hK (P_left hP) (hel _ _ hy9)
  rw [sapp rfl 0, nI_clamp (show n < 2 ^ 31 by omega)] at hP hD
  refine lv_aload_n hx hb dJ7_copyOf_6403c_38 rfl (lv_at hl 0 rfl) ?_
  exact hret r9 r9 _ _ _ _ _ _ dJ7_copyOf_6403c_39 hP hD hS (Nat.le_of_ble_eq_true rfl) (by first | omega | exact Nat.le_of_ble_eq_true rfl) rfl
abbrev rm_cp2 : Room := { frames := 2, cells := 1, slots := 33, locals := 103 }
abbrev wq_cp2 : List Cond := Cond.code yJ7_copyOf_1904c cJ7_copyOf_1904c 2 (some (.array (.object "java/lang/Object"))) :: wALL
set_option maxHeartbeats 4000000 in
set_option maxRecDepth 100000 in
theorem c_cp2 (l : Launch) (D : va_G) (k : Nat → Nat) (ws : va_W) (qa b n N : Nat) (f : Nat → Option Nat) (hqa : ws[qa]? = some (b, .inl (k 3, n, .inr (.inr (.inr (.inr f)))))) (hel : ∀ (i y : Nat), f i = some y → (∃ (j : Nat) (fs : List Value), ws[j]? = some (y, .inr (11, fs))) ∨ ∃ (j : Nat) (u : Nat → Int32), ws[j]? = some (y, .inl (k 0, 5, .inl u))) (hn : n ≤ N) (hN : N ≤ 33) {sz : Nat} : Met l yJ7_copyOf_1904c wq_cp2 rm_cp2 (va_Pc [.ref b, .int (nI N)] (Pw D k ws sz)) (va_Qr (fun w9 : Nat × Nat => w9.1 = w9.2) (fun w9 a9 t9 => a9 = w9.1 ∧ Bw D ws sz (ws ++ [(w9.2, .inl (k 3, N, .inr (.inr (.inr (.inr (va_cpy f (fun _ => none) 0 0 n))))))]) t9) (va_A ws sz)) 1 33 (va_A ws sz) := by
  refine fw_r (Or.inr ⟨_, rfl⟩) (post := fun r (u : Nat) => r = u) (y := yJ7_copyOf_1904c) (wsy := wq_cp2) (cc := cJ7_copyOf_1904c) (maxL := 2) (rm := rm_cp2) (mc := 1) (ms := 33) (D := D) (k := k) (W0 := ws) (av := [.ref b, .int (nI N)]) (wf := fun u : Nat => ws ++ [(u, .inl (k 3, N, .inr (.inr (.inr (.inr (va_cpy f (fun _ => none) 0 0 n))))))]) (by decide) rfl (Nat.le_of_ble_eq_true rfl) ?_
  intro p e s m args below meth c A Q ls hC hP hD hl hret
  obtain ⟨⟨hx, hb, hml, hown, hts⟩, hG, hA⟩ := id hC
  have hK := hG.1
  have hS : va_S A s.heap s.heap [] := va_S.rf
  have hl : lv_has ls 2 [(0, .ref b), (1, .int (nI N))] := hl
  have hown : s.vm.findClass RJ7 = some m.cls := hown
  refine lv_aload_n hx hb dJ7_copyOf_1904c_0 rfl (lv_at hl 0 rfl) ?_
  refine lv_iload_n hx hb dJ7_copyOf_1904c_1 rfl (lv_at hl 1 rfl) ?_
  refine lv_aload_n hx hb dJ7_copyOf_1904c_2 rfl (lv_at hl 0 rfl) ?_
  refine va_getC (C := "[Ljava/lang/Object;") hx hb (by rw [hml]; exact hl.1.symm) hown (hts _ (List.mem_cons_of_mem _ A_636)) (va_Dc.use hG.2.2.2.2.2.2.2.2.2.2.2.2.2.2.1.1) (hts _ (List.mem_cons_of_mem _ A_637)) (hts _ (List.mem_cons_of_mem _ A_638)) (hts _ (List.mem_cons_of_mem _ A_639)) hG.2.2.2.2.2.2.2.2.2.2.2.2.2.2.1.2 (arr_recv hP hqa hC.2.1.2.1.2.2.2.1) (Nat.le_of_ble_eq_true rfl) (Nat.le_of_ble_eq_true rfl) dJ7_copyOf_1904c_3 ?_
  refine fw_crS (S := Nat) (post := fun r u => r = u) (wf := fun u : Nat => ws ++ [(u, .inl (k 3, N, .inr (.inr (.inr (.inr (va_cpy f (fun _ => none) 0 0 n))))))]) (wN := fun u : Nat => ws ++ [(u, .inl (k 3, N, .inr (.inr (.inr (.inr (va_cpy f (fun _ => none) 0 0 n))))))]) (As := [.ref b, .int (nI N), .ref (k 20)]) (rest := []) hC (c_cp3 l D k ws qa b n N f hqa hel hn hN) (va_cwS 3 hts (gA_S A_640 A_641 A_13 A_632) rfl rfl rfl (by decide +kernel) ⟨(Nat.le_of_ble_eq_true rfl), (Nat.le_of_ble_eq_true rfl)⟩) rfl hl.1 rfl (Nat.le_of_ble_eq_true rfl) dJ7_copyOf_1904c_6 ⟨(Nat.le_of_ble_eq_true rfl), (Nat.le_of_ble_eq_true rfl)⟩ hP hD hS Jn.same (fun r8 r9 H locs hP hD hS hr9 => ?_)
  obtain rfl : r8 = r9 := hr9
  exact hret r8 r8 _ _ _ _ _ _ dJ7_copyOf_1904c_9 hP hD hS (Nat.le_of_ble_eq_true rfl) (by first | omega | exact Nat.le_of_ble_eq_true rfl) rfl
abbrev rm_gi_first : Room := { frames := 1, cells := 1, slots := 33, locals := 80 }
abbrev wq_gi_first : List Cond := Cond.code yJx4a65c_grow_92f84 cJx4a65c_grow_92f84 4 (some (.array (.object "java/lang/Object"))) :: wALL
set_option maxHeartbeats 4000000 in
set_option maxRecDepth 100000 in
theorem c_gi_first (l : Launch) (D : va_G) (k : Nat → Nat) (ws : va_W) (q a : Nat) (m7 z : Int32) (hq : ws[q]? = some (a, .inr (3, [.int m7, .ref (k 10), .int z]))) {sz : Nat} : Met l yJx4a65c_grow_92f84 wq_gi_first rm_gi_first (va_Pc [.ref a, .int 1] (Pw D k ws sz)) (va_Qr (fun w9 : Nat × Nat => w9.1 = w9.2) (fun w9 a9 t9 => a9 = w9.1 ∧ Bw D ws sz (ws.set q (a, .inr (3, [.int m7, .ref w9.2, .int z])) ++ [(w9.2, .inl (k 3, 10, .inr (.inr (.inr (.inr (fun _ => none))))))]) t9) (va_A ws sz)) 1 33 (va_A ws sz) := by
  refine fw_r (Or.inr ⟨_, rfl⟩) (post := fun r (u : Nat) => r = u) (y := yJx4a65c_grow_92f84) (wsy := wq_gi_first) (cc := cJx4a65c_grow_92f84) (maxL := 4) (rm := rm_gi_first) (mc := 1) (ms := 33) (D := D) (k := k) (W0 := ws) (av := [.ref a, .int 1]) (wf := fun u : Nat => ws.set q (a, .inr (3, [.int m7, .ref u, .int z])) ++ [(u, .inl (k 3, 10, .inr (.inr (.inr (.inr (fun _ => none))))))]) (by decide) rfl (Nat.le_of_ble_eq_true rfl) ?_
  intro p e s m args below meth c A Q ls hC hP hD hl hret
  obtain ⟨⟨hx, hb, hml, hown, hts⟩, hG, hA⟩ := id hC
  have hK := hG.1
  have hS : va_S A s.heap s.heap [] := va_S.rf
  have hin_Jx4a65c : ∀ w ∈ u_ws RJx4a65c TJx4a65c 3, w ∈ wq_gi_first := fun w h => List.mem_cons_of_mem _ (iU_Jx4a65c w h)
  have hf_9 := hts _ (List.mem_cons_of_mem _ A_574)
  have hf_39 := hts _ (List.mem_cons_of_mem _ A_573)
  have hl : lv_has ls 4 [(0, .ref a), (1, .int 1)] := hl
  have hown : s.vm.findClass RJx4a65c = some m.cls := hown
  refine lv_aload_n hx hb dJx4a65c_grow_92f84_0 rfl (lv_at hl 0 rfl) ?_
  refine va_get (D := D) (ci := 3) (C := RJx4a65c) (T := TJx4a65c) (N := 3) hx hb hts hin_Jx4a65c hown hK hP q hq rfl 1 (by decide) hf_9 (fun _ h9 => h9) rfl dJx4a65c_grow_92f84_1 ?_
  refine va_tlen hx hb hG.2.2.2.2.2.2.1.2 hS (v := 0) rfl dJx4a65c_grow_92f84_4 ?_
  refine lv_istore_n (lv' := [(2, .int 0), (0, .ref a), (1, .int 1)]) hx hb dJx4a65c_grow_92f84_5 rfl hl (by decide) rfl (fun ls hl => ?_)
  refine lv_iload_n hx hb dJx4a65c_grow_92f84_6 rfl (lv_at hl 0 rfl) ?_
  refine lv_if_gt (tgt := 20) hx hb dJx4a65c_grow_92f84_7 (by decide) (fun c9 => absurd c9 (by decide)) (fun _ => ?_)
  refine lv_aload_n hx hb dJx4a65c_grow_92f84_10 rfl (lv_at hl 1 rfl) ?_
  refine va_get (D := D) (ci := 3) (C := RJx4a65c) (T := TJx4a65c) (N := 3) hx hb hts hin_Jx4a65c hown hK hP q hq rfl 1 (by decide) hf_9 (fun _ h9 => h9) rfl dJx4a65c_grow_92f84_11 ?_
  refine va_gets hx hb (GG.dc hG) hS hown hf_39 (fun _ h9 => h9) dJx4a65c_grow_92f84_14 ?_
  refine lv_acmp_eq (rx := some (k 10)) (ry := some (k 10)) (tgt := 45) hx hb dJx4a65c_grow_92f84_17 (by decide) (fun _ => ?_) (fun h9 => absurd rfl h9)
  refine lv_aload_n hx hb dJx4a65c_grow_92f84_45 rfl (lv_at hl 1 rfl) ?_
  refine lv_bipush (v := 10) hx hb dJx4a65c_grow_92f84_46 (by decide) ?_
  refine lv_iload_n hx hb dJx4a65c_grow_92f84_48 rfl (lv_at hl 2 rfl) ?_
  refine va_mmax (x := 10) (y := 1) hx hb (by rw [hml]; exact hl.1.symm) hown (hts _ (List.mem_cons_of_mem _ A_642)) (hts _ (List.mem_cons_of_mem _ A_327)) (hts _ (List.mem_cons_of_mem _ A_328)) (hts _ (List.mem_cons_of_mem _ A_329)) (Nat.le_of_ble_eq_true rfl) (Nat.le_of_ble_eq_true rfl) (by first | exact Nat.zero_le _ | exact Nat.le_of_ble_eq_true rfl) (by first | exact Nat.zero_le _ | (show 0 + N ≤ 33; omega)) dJx4a65c_grow_92f84_49 ?_
  rw [show (if (10 : Int32) < 1 then (1 : Int32) else 10) = 10 by decide]
  refine va_newq hx hb hown (hts _ (List.mem_cons_of_mem _ A_643)) hG.2.2.2.2.2.2.2.2.2.2.2.2.2.2.2.1 hK hP hD hS hA (N' := 10) (by decide) (by decide) (by omega) (Nat.le_of_ble_eq_true rfl) (by show 0 + 10 ≤ 33; omega) dJx4a65c_grow_92f84_52 (fun r9 cA H hK9 hP hD hS => ?_)
  have h19 := va_nmO (nm := "[Ljava/lang/Object;") ((hK9.2 5 (cA, .object "java/lang/Object") rfl).2) (by decide +kernel)
  have h29 : cA = k 3 := Option.some.inj (h19.symm.trans hC.2.1.2.1.2.2.2.1)
  subst h29
  clear hK9 h19
  refine lv_dup_x1 hx hb dJx4a65c_grow_92f84_55 rfl rfl ?_
  refine va_put (D := D) (ci := 3) (v := .ref r9) (ty := .array (.object "java/lang/Object")) (C := RJx4a65c) (T := TJx4a65c) (N := 3) hx hb hts hin_Jx4a65c tyJx4a65c tyJx4a65c_ok nmJx4a65c hown hK hP hD hS q (app_l hq) rfl 1 (by decide) hf_9 (fun _ h9 => h9) rfl (by decide +kernel) rfl rfl (Nat.le_of_ble_eq_true rfl) dJx4a65c_grow_92f84_56 (fun H locs hP hD hS => ?_)
  rw [List.set_append_left _ _ ((List.getElem?_eq_some_iff.mp hq).1)] at hP hD
  exact hret r9 r9 _ _ _ _ _ _ dJx4a65c_grow_92f84_59 hP hD hS (Nat.le_of_ble_eq_true rfl) (by first | omega | exact Nat.le_of_ble_eq_true rfl) rfl
abbrev rm_gr_first : Room := { frames := 2, cells := 1, slots := 33, locals := 103 }
abbrev wq_gr_first : List Cond := Cond.code yJx4a65c_grow_d5877 cJx4a65c_grow_d5877 1 (some (.array (.object "java/lang/Object"))) :: wALL
set_option maxHeartbeats 4000000 in
set_option maxRecDepth 100000 in
theorem c_gr_first (l : Launch) (D : va_G) (k : Nat → Nat) (ws : va_W) (q a : Nat) (m7 : Int32) (hq : ws[q]? = some (a, .inr (3, [.int m7, .ref (k 10), .int 0]))) {sz : Nat} : Met l yJx4a65c_grow_d5877 wq_gr_first rm_gr_first (va_Pc [.ref a] (Pw D k ws sz)) (va_Qr (fun w9 : Nat × Nat => w9.1 = w9.2) (fun w9 a9 t9 => a9 = w9.1 ∧ Bw D ws sz (ws.set q (a, .inr (3, [.int m7, .ref w9.2, .int 0])) ++ [(w9.2, .inl (k 3, 10, .inr (.inr (.inr (.inr (fun _ => none))))))]) t9) (va_A ws sz)) 1 33 (va_A ws sz) := by
  refine fw_r (Or.inr ⟨_, rfl⟩) (post := fun r (u : Nat) => r = u) (y := yJx4a65c_grow_d5877) (wsy := wq_gr_first) (cc := cJx4a65c_grow_d5877) (maxL := 1) (rm := rm_gr_first) (mc := 1) (ms := 33) (D := D) (k := k) (W0 := ws) (av := [.ref a]) (wf := fun u : Nat => ws.set q (a, .inr (3, [.int m7, .ref u, .int 0])) ++ [(u, .inl (k 3, 10, .inr (.inr (.inr (.inr (fun _ => none))))))]) (by decide) rfl (Nat.le_of_ble_eq_true rfl) ?_
  intro p e s m args below meth c A Q ls hC hP hD hl hret
  obtain ⟨⟨hx, hb, hml, hown, hts⟩, hG, hA⟩ := id hC
  have hK := hG.1
  have hS : va_S A s.heap s.heap [] := va_S.rf
  have hin_Jx4a65c : ∀ w ∈ u_ws RJx4a65c TJx4a65c 3, w ∈ wq_gr_first := fun w h => List.mem_cons_of_mem _ (iU_Jx4a65c w h)
  have hf_48 := hts _ (List.mem_cons_of_mem _ A_603)
  have hl : lv_has ls 1 [(0, .ref a)] := hl
  have hown : s.vm.findClass RJx4a65c = some m.cls := hown
  refine lv_aload_n hx hb dJx4a65c_grow_d5877_0 rfl (lv_at hl 0 rfl) ?_
  refine lv_aload_n hx hb dJx4a65c_grow_d5877_1 rfl (lv_at hl 0 rfl) ?_
  refine va_get (D := D) (ci := 3) (C := RJx4a65c) (T := TJx4a65c) (N := 3) hx hb hts hin_Jx4a65c hown hK hP q hq rfl 2 (by decide) hf_48 (fun _ h9 => h9) rfl dJx4a65c_grow_d5877_2 ?_
  refine lv_iconst (v := 1) hx hb dJx4a65c_grow_d5877_5 (by decide) ?_
  refine lv_iadd hx hb dJx4a65c_grow_d5877_6 ?_
  rw [show (0 : Int32) + 1 = 1 by decide]
  refine fw_crV (S := Nat) (post := fun r u => r = u) (wf := fun u : Nat => ws.set q (a, .inr (3, [.int m7, .ref u, .int 0])) ++ [(u, .inl (k 3, 10, .inr (.inr (.inr (.inr (fun _ => none))))))]) (wN := fun u : Nat => ws.set q (a, .inr (3, [.int m7, .ref u, .int 0])) ++ [(u, .inl (k 3, 10, .inr (.inr (.inr (.inr (fun _ => none))))))]) (As := [.int 1]) (rest := []) hC (c_gi_first l D k ws q a m7 0 hq) (cwV 1 hts (gA_V A_648 A_649 A_650 A_583 A_647) rfl rfl rfl (by decide +kernel) ⟨(Nat.le_of_ble_eq_true rfl), (Nat.le_of_ble_eq_true rfl)⟩) (va_recv hK hP (ci := 3) (q0 := q) rfl hq) rfl hl.1 rfl (Nat.le_of_ble_eq_true rfl) dJx4a65c_grow_d5877_7 ⟨(Nat.le_of_ble_eq_true rfl), (Nat.le_of_ble_eq_true rfl)⟩ hP hD hS Jn.same (fun r8 r9 H locs hP hD hS hr9 => ?_)
  obtain rfl : r8 = r9 := hr9
  exact hret r8 r8 _ _ _ _ _ _ dJx4a65c_grow_d5877_10 hP hD hS (Nat.le_of_ble_eq_true rfl) (by first | omega | exact Nat.le_of_ble_eq_true rfl) rfl
abbrev rm_a3_first : Room := { frames := 3, cells := 1, slots := 33, locals := 123 }
abbrev wq_a3_first : List Cond := Cond.code yJx4a65c_add_72be8 cJx4a65c_add_72be8 4 none :: wALL
set_option maxHeartbeats 4000000 in
set_option maxRecDepth 100000 in
theorem c_a3_first (l : Launch) (D : va_G) (k : Nat → Nat) (ws : va_W) (q a : Nat) (m7 : Int32) (hq : ws[q]? = some (a, .inr (3, [.int m7, .ref (k 10), .int 0]))) (y : Nat) (hy : (∃ (j : Nat) (fs : List Value), j ≠ q ∧ ws[j]? = some (y, .inr (11, fs))) ∨ ∃ (j : Nat) (u : Nat → Int32), j ≠ q ∧ ws[j]? = some (y, .inl (k 0, 5, .inl u))) {sz : Nat} : Met l yJx4a65c_add_72be8 wq_a3_first rm_a3_first (va_Pc [.ref a, .ref y, .ref (k 10), .int 0] (Pw D k ws sz)) (va_Qv (fun _ : Nat => True) (fun u => Bw D ws sz (ws.set q (a, .inr (3, [.int m7, .ref u, .int (nI (0 + 1))])) ++ [(u, .inl (k 3, 10, .inr (.inr (.inr (.inr (va_up (fun _ => none) 0 (some y)))))))])) (va_A ws sz)) 1 33 (va_A ws sz) := by
  refine fw_v (post := fun _ : Nat => True) (y := yJx4a65c_add_72be8) (wsy := wq_a3_first) (cc := cJx4a65c_add_72be8) (maxL := 4) (rm := rm_a3_first) (mc := 1) (ms := 33) (D := D) (k := k) (W0 := ws) (av := [.ref a, .ref y, .ref (k 10), .int 0]) (wf := fun u : Nat => ws.set q (a, .inr (3, [.int m7, .ref u, .int (nI (0 + 1))])) ++ [(u, .inl (k 3, 10, .inr (.inr (.inr (.inr (va_up (fun _ => none) 0 (some y)))))))]) (by decide) rfl (Nat.le_of_ble_eq_true rfl) ?_
  intro p e s m args below meth c A Q ls hC hP hD hl hmn hret
  obtain ⟨⟨hx, hb, hml, hown, hts⟩, hG, hA⟩ := id hC
  have hK := hG.1
  have hS : va_S A s.heap s.heap [] := va_S.rf
  have hin_Jx4a65c : ∀ w ∈ u_ws RJx4a65c TJx4a65c 3, w ∈ wq_a3_first := fun w h => List.mem_cons_of_mem _ (iU_Jx4a65c w h)
  have hf_48 := hts _ (List.mem_cons_of_mem _ A_603)
  have hl : lv_has ls 4 [(0, .ref a), (1, .ref y), (2, .ref (k 10)), (3, .int 0)] := hl
  have hown : s.vm.findClass RJx4a65c = some m.cls := hown
  refine lv_iload_n hx hb dJx4a65c_add_72be8_0 rfl (lv_at hl 3 rfl) ?_
  refine lv_aload_n hx hb dJx4a65c_add_72be8_1 rfl (lv_at hl 2 rfl) ?_
  refine va_tlen hx hb hG.2.2.2.2.2.2.1.2 hS (v := 0) rfl dJx4a65c_add_72be8_2 ?_
  refine lv_icmp_ne (tgt := 11) hx hb dJx4a65c_add_72be8_3 (by decide) (fun h9 => absurd rfl h9) (fun _ => ?_)
  refine lv_aload_n hx hb dJx4a65c_add_72be8_6 rfl (lv_at hl 0 rfl) ?_
  refine fw_crV (S := Nat) (post := fun r u => r = u) (wf := fun u : Nat => ws.set q (a, .inr (3, [.int m7, .ref u, .int 0])) ++ [(u, .inl (k 3, 10, .inr (.inr (.inr (.inr (fun _ => none))))))]) (wN := fun u : Nat => ws.set q (a, .inr (3, [.int m7, .ref u, .int 0])) ++ [(u, .inl (k 3, 10, .inr (.inr (.inr (.inr (fun _ => none))))))]) (As := []) (rest := []) hC (c_gr_first l D k ws q a m7 hq) (cwV 0 hts (gA_V A_652 A_653 A_654 A_583 A_651) rfl rfl rfl (by decide +kernel) ⟨(Nat.le_of_ble_eq_true rfl), (Nat.le_of_ble_eq_true rfl)⟩) (va_recv hK hP (ci := 3) (q0 := q) rfl hq) rfl hl.1 rfl (Nat.le_of_ble_eq_true rfl) dJx4a65c_add_72be8_7 ⟨(Nat.le_of_ble_eq_true rfl), (Nat.le_of_ble_eq_true rfl)⟩ hP hD hS Jn.same (fun r8 r9 H locs hP hD hS hr9 => ?_)
  obtain rfl : r8 = r9 := hr9
  refine lv_astore_n (lv' := [(2, .ref r8), (0, .ref a), (1, .ref y), (3, .int 0)]) hx hb dJx4a65c_add_72be8_10 rfl hl (by decide) rfl (fun ls hl => ?_)
  refine lv_aload_n hx hb dJx4a65c_add_72be8_11 rfl (lv_at hl 0 rfl) ?_
  refine lv_iload_n hx hb dJx4a65c_add_72be8_12 rfl (lv_at hl 3 rfl) ?_
  refine lv_aload_n hx hb dJx4a65c_add_72be8_13 rfl (lv_at hl 2 rfl) ?_
  refine va_astqM hx hb hK hP hD hS ((ws.set q (a, .inr (3, [.int m7, .ref r8, .int 0]))).length + 0) 3 (app_r rfl) rfl (el_any hG hK (P_left hP) (el_set hy)) (by unfold vp_in; decide) dJx4a65c_add_72be8_14 (fun H locs hP hD hS => ?_)
  rw [sapp rfl 0] at hP hD
  refine lv_aload_n hx hb dJx4a65c_add_72be8_15 rfl (lv_at hl 1 rfl) ?_
  refine lv_iload_n hx hb dJx4a65c_add_72be8_16 rfl (lv_at hl 3 rfl) ?_
  refine lv_iconst (v := 1) hx hb dJx4a65c_add_72be8_17 (by decide) ?_
  refine lv_iadd hx hb dJx4a65c_add_72be8_18 ?_
  rw [show (0 : Int32) + 1 = nI (0 + 1) by decide]
  refine va_put (D := D) (ci := 3) (v := .int (nI (0 + 1))) (ty := .int) (C := RJx4a65c) (T := TJx4a65c) (N := 3) hx hb hts hin_Jx4a65c tyJx4a65c tyJx4a65c_ok nmJx4a65c hown hK hP hD hS q (app_l (List.getElem?_set_self (List.getElem?_eq_some_iff.mp hq).1)) rfl 2 (by decide) hf_48 (fun _ h9 => h9) rfl (by decide +kernel) rfl rfl (Nat.le_of_ble_eq_true rfl) dJx4a65c_add_72be8_19 (fun H locs hP hD hS => ?_)
  rw [List.set_append_left _ _ (by rw [List.length_set]; exact (List.getElem?_eq_some_iff.mp hq).1), List.set_set] at hP hD
  exact hret r8 _ _ _ _ _ _ dJx4a65c_add_72be8_22 hP hD hS (Nat.le_of_ble_eq_true rfl) (by first | omega | exact Nat.le_of_ble_eq_true rfl) trivial
abbrev rm_ad_first : Room := { frames := 4, cells := 1, slots := 33, locals := 146 }
abbrev wq_ad_first : List Cond := Cond.code yJx4a65c_add_9ea2d cJx4a65c_add_9ea2d 2 (some .boolean) :: wALL
set_option maxHeartbeats 4000000 in
set_option maxRecDepth 100000 in
theorem c_ad_first (l : Launch) (D : va_G) (k : Nat → Nat) (ws : va_W) (q a : Nat) (m7 : Int32) (hq : ws[q]? = some (a, .inr (3, [.int m7, .ref (k 10), .int 0]))) (y : Nat) (hy : (∃ (j : Nat) (fs : List Value), j ≠ q ∧ ws[j]? = some (y, .inr (11, fs))) ∨ ∃ (j : Nat) (u : Nat → Int32), j ≠ q ∧ ws[j]? = some (y, .inl (k 0, 5, .inl u))) {sz : Nat} : Met l yJx4a65c_add_9ea2d wq_ad_first rm_ad_first (va_Pc [.ref a, .ref y] (Pw D k ws sz)) (va_Qi (fun r (_ : Nat) => r = 1) (fun u => Bw D ws sz (ws.set q (a, .inr (3, [.int (m7 + 1), .ref u, .int (nI (0 + 1))])) ++ [(u, .inl (k 3, 10, .inr (.inr (.inr (.inr (va_up (fun _ => none) 0 (some y)))))))])) (va_A ws sz)) 1 33 (va_A ws sz) := by
  refine fw_i (post := fun r (_ : Nat) => r = 1) (y := yJx4a65c_add_9ea2d) (wsy := wq_ad_first) (cc := cJx4a65c_add_9ea2d) (maxL := 2) (rm := rm_ad_first) (mc := 1) (ms := 33) (D := D) (k := k) (W0 := ws) (av := [.ref a, .ref y]) (wf := fun u : Nat => ws.set q (a, .inr (3, [.int (m7 + 1), .ref u, .int (nI (0 + 1))])) ++ [(u, .inl (k 3, 10, .inr (.inr (.inr (.inr (va_up (fun _ => none) 0 (some y)))))))]) (by decide) rfl (Nat.le_of_ble_eq_true rfl) ?_
  intro p e s m args below meth c A Q ls hC hP hD hl hret
  obtain ⟨⟨hx, hb, hml, hown, hts⟩, hG, hA⟩ := id hC
  have hK := hG.1
  have hS : va_S A s.heap s.heap [] := va_S.rf
  have hin_Jx4a65c : ∀ w ∈ u_ws RJx4a65c TJx4a65c 3, w ∈ wq_ad_first := fun w h => List.mem_cons_of_mem _ (iU_Jx4a65c w h)
  have hf_63 := hts _ (List.mem_cons_of_mem _ A_656)
  have hf_9 := hts _ (List.mem_cons_of_mem _ A_574)
  have hf_48 := hts _ (List.mem_cons_of_mem _ A_603)
  have hl : lv_has ls 2 [(0, .ref a), (1, .ref y)] := hl
  have hown : s.vm.findClass RJx4a65c = some m.cls := hown
  refine lv_aload_n hx hb dJx4a65c_add_9ea2d_0 rfl (lv_at hl 0 rfl) ?_
  refine lv_dup hx hb dJx4a65c_add_9ea2d_1 rfl ?_
  refine va_get (D := D) (ci := 3) (C := RJx4a65c) (T := TJx4a65c) (N := 3) hx hb hts hin_Jx4a65c hown hK hP q hq rfl 0 (by decide) hf_63 (fun x9 h9 => u_same (hts _ (List.mem_cons_of_mem _ A_657)) x9 h9) rfl dJx4a65c_add_9ea2d_2 ?_
  refine lv_iconst (v := 1) hx hb dJx4a65c_add_9ea2d_5 (by decide) ?_
  refine lv_iadd hx hb dJx4a65c_add_9ea2d_6 ?_
  refine va_put (D := D) (ci := 3) (v := .int (m7 + 1)) (ty := .int) (C := RJx4a65c) (T := TJx4a65c) (N := 3) hx hb hts hin_Jx4a65c tyJx4a65c tyJx4a65c_ok nmJx4a65c hown hK hP hD hS q hq rfl 0 (by decide) hf_63 (fun x9 h9 => u_same (hts _ (List.mem_cons_of_mem _ A_657)) x9 h9) rfl (by decide +kernel) rfl rfl (Nat.le_of_ble_eq_true rfl) dJx4a65c_add_9ea2d_7 (fun H locs hP hD hS => ?_)
  refine lv_aload_n hx hb dJx4a65c_add_9ea2d_10 rfl (lv_at hl 0 rfl) ?_
  refine lv_aload_n hx hb dJx4a65c_add_9ea2d_11 rfl (lv_at hl 1 rfl) ?_
  refine lv_aload_n hx hb dJx4a65c_add_9ea2d_12 rfl (lv_at hl 0 rfl) ?_
  refine va_get (D := D) (ci := 3) (C := RJx4a65c) (T := TJx4a65c) (N := 3) hx hb hts hin_Jx4a65c hown hK hP q (List.getElem?_set_self (List.getElem?_eq_some_iff.mp hq).1) rfl 1 (by decide) hf_9 (fun _ h9 => h9) rfl dJx4a65c_add_9ea2d_13 ?_
  refine lv_aload_n hx hb dJx4a65c_add_9ea2d_16 rfl (lv_at hl 0 rfl) ?_
  refine va_get (D := D) (ci := 3) (C := RJx4a65c) (T := TJx4a65c) (N := 3) hx hb hts hin_Jx4a65c hown hK hP q (List.getElem?_set_self (List.getElem?_eq_some_iff.mp hq).1) rfl 2 (by decide) hf_48 (fun _ h9 => h9) rfl dJx4a65c_add_9ea2d_17 ?_
  refine fw_cvV (S := Nat) (post := fun _ => True) (wf := fun u : Nat => (ws.set q (a, .inr (3, [.int (m7 + 1), .ref (k 10), .int 0]))).set q (a, .inr (3, [.int (m7 + 1), .ref u, .int (nI (0 + 1))])) ++ [(u, .inl (k 3, 10, .inr (.inr (.inr (.inr (va_up (fun _ => none) 0 (some y)))))))]) (wN := fun u : Nat => (ws.set q (a, .inr (3, [.int (m7 + 1), .ref (k 10), .int 0]))).set q (a, .inr (3, [.int (m7 + 1), .ref u, .int (nI (0 + 1))])) ++ [(u, .inl (k 3, 10, .inr (.inr (.inr (.inr (va_up (fun _ => none) 0 (some y)))))))]) (As := [.ref y, .ref (k 10), .int 0]) (rest := []) hC (c_a3_first l D k (ws.set q (a, .inr (3, [.int (m7 + 1), .ref (k 10), .int 0]))) q a (m7 + 1) (List.getElem?_set_self (List.getElem?_eq_some_iff.mp hq).1) y (el_sets hy)) (cwV 3 hts (gA_V A_658 A_659 A_660 A_583 A_655) rfl rfl rfl (by decide +kernel) ⟨(Nat.le_of_ble_eq_true rfl), (Nat.le_of_ble_eq_true rfl)⟩) (va_recv hK hP (ci := 3) (q0 := q) rfl (List.getElem?_set_self (List.getElem?_eq_some_iff.mp hq).1)) rfl hl.1 rfl (Nat.le_of_ble_eq_true rfl) dJx4a65c_add_9ea2d_20 ⟨(Nat.le_of_ble_eq_true rfl), (Nat.le_of_ble_eq_true rfl)⟩ hP hD hS Jn.same (fun r8 H locs hP hD hS _ => ?_)
  rw [List.set_set] at hP hD
  refine lv_iconst (v := 1) hx hb dJx4a65c_add_9ea2d_23 (by decide) ?_
  exact hret 1 r8 _ _ _ _ _ _ dJx4a65c_add_9ea2d_24 (by decide) hP hD hS (Nat.le_of_ble_eq_true rfl) (by first | omega | exact Nat.le_of_ble_eq_true rfl) rfl
abbrev rm_gi_grow : Room := { frames := 3, cells := 1, slots := 33, locals := 124 }
abbrev wq_gi_grow : List Cond := Cond.code yJx4a65c_grow_92f84 cJx4a65c_grow_92f84 4 (some (.array (.object "java/lang/Object"))) :: wALL
set_option maxHeartbeats 4000000 in
set_option maxRecDepth 100000 in
theorem c_gi_grow (l : Launch) (D : va_G) (k : Nat → Nat) (ws : va_W) (q a b qa n N : Nat) (f : Nat → Option Nat) (m7 z : Int32) (hq : ws[q]? = some (a, .inr (3, [.int m7, .ref b, .int z]))) (hqa : ws[qa]? = some (b, .inl (k 3, n, .inr (.inr (.inr (.inr f)))))) (hel : ∀ (i y : Nat), f i = some y → (∃ (j : Nat) (fs : List Value), ws[j]? = some (y, .inr (11, fs))) ∨ ∃ (j : Nat) (u : Nat → Int32), ws[j]? = some (y, .inl (k 0, 5, .inl u))) (ht : (n = 10 ∧ N = 15) ∨ (n = 15 ∧ N = 22) ∨ (n = 22 ∧ N = 33)) {sz : Nat} : Met l yJx4a65c_grow_92f84 wq_gi_grow rm_gi_grow (va_Pc [.ref a, .int (nI (n + 1))] (Pw D k ws sz)) (va_Qr (fun w9 : Nat × Nat => w9.1 = w9.2) (fun w9 a9 t9 => a9 = w9.1 ∧ Bw D ws sz (ws.set q (a, .inr (3, [.int m7, .ref w9.2, .int z])) ++ [(w9.2, .inl (k 3, N, .inr (.inr (.inr (.inr (va_cpy f (fun _ => none) 0 0 n))))))]) t9) (va_A ws sz)) 1 33 (va_A ws sz) := by
  refine fw_r (Or.inr ⟨_, rfl⟩) (post := fun r (u : Nat) => r = u) (y := yJx4a65c_grow_92f84) (wsy := wq_gi_grow) (cc := cJx4a65c_grow_92f84) (maxL := 4) (rm := rm_gi_grow) (mc := 1) (ms := 33) (D := D) (k := k) (W0 := ws) (av := [.ref a, .int (nI (n + 1))]) (wf := fun u : Nat => ws.set q (a, .inr (3, [.int m7, .ref u, .int z])) ++ [(u, .inl (k 3, N, .inr (.inr (.inr (.inr (va_cpy f (fun _ => none) 0 0 n))))))]) (by decide) rfl (Nat.le_of_ble_eq_true rfl) ?_
  intro p e s m args below meth c A Q ls hC hP hD hl hret
  obtain ⟨⟨hx, hb, hml, hown, hts⟩, hG, hA⟩ := id hC
  have hK := hG.1
  have hS : va_S A s.heap s.heap [] := va_S.rf
  have hin_Jx4a65c : ∀ w ∈ u_ws RJx4a65c TJx4a65c 3, w ∈ wq_gi_grow := fun w h => List.mem_cons_of_mem _ (iU_Jx4a65c w h)
  have hf_9 := hts _ (List.mem_cons_of_mem _ A_574)
  have hl : lv_has ls 4 [(0, .ref a), (1, .int (nI (n + 1)))] := hl
  have hown : s.vm.findClass RJx4a65c = some m.cls := hown
  refine lv_aload_n hx hb dJx4a65c_grow_92f84_0 rfl (lv_at hl 0 rfl) ?_
  refine va_get (D := D) (ci := 3) (C := RJx4a65c) (T := TJx4a65c) (N := 3) hx hb hts hin_Jx4a65c hown hK hP q hq rfl 1 (by decide) hf_9 (fun _ h9 => h9) rfl dJx4a65c_grow_92f84_1 ?_
  refine va_alen hx hb hK hP qa 3 hqa rfl (v := nI n) rfl dJx4a65c_grow_92f84_4 ?_
  refine lv_istore_n (lv' := [(2, .int (nI n)), (0, .ref a), (1, .int (nI (n + 1)))]) hx hb dJx4a65c_grow_92f84_5 rfl hl (by decide) rfl (fun ls hl => ?_)
  refine lv_iload_n hx hb dJx4a65c_grow_92f84_6 rfl (lv_at hl 0 rfl) ?_
  refine lv_if_gt (tgt := 20) hx hb dJx4a65c_grow_92f84_7 (by decide) (fun _ => ?_) (fun h9 => absurd (nI_p9 (by omega) (by omega)) h9)
  refine lv_iload_n hx hb dJx4a65c_grow_92f84_20 rfl (lv_at hl 0 rfl) ?_
  refine lv_iload_n hx hb dJx4a65c_grow_92f84_21 rfl (lv_at hl 2 rfl) ?_
  refine lv_iload_n hx hb dJx4a65c_grow_92f84_22 rfl (lv_at hl 0 rfl) ?_
  refine lv_isub hx hb dJx4a65c_grow_92f84_23 ?_
  refine lv_iload_n hx hb dJx4a65c_grow_92f84_24 rfl (lv_at hl 0 rfl) ?_
  refine lv_iconst (v := 1) hx hb dJx4a65c_grow_92f84_25 (by decide) ?_
  refine lv_ishr hx hb dJx4a65c_grow_92f84_26 ?_
  refine fw_ciS (As := [.int (nI n), .int (nI (n + 1) - nI n), .int (nI n >>> (1 &&& 31))]) (rest := []) hC (c_J8_newLength_cabcc l D k (post := fun r _ => r = nI N) (σ := fun _ _ => 0) (nl_ok ht)) (va_cwS 3 hts (gA_S A_644 A_336 A_332 A_325) rfl rfl rfl (by decide +kernel) ⟨(Nat.le_of_ble_eq_true rfl), (Nat.le_of_ble_eq_true rfl)⟩) rfl hl.1 rfl (Nat.le_of_ble_eq_true rfl) dJx4a65c_grow_92f84_27 ⟨(Nat.le_of_ble_eq_true rfl), (Nat.le_of_ble_eq_true rfl)⟩ P_nil D_nil hS (Jn.pure (w0 := fun _ : Mem => []) hP hD) (fun r7 σ7 H locs hP hD hS hr7 => ?_)
  obtain rfl : r7 = nI N := hr7
  refine lv_istore_n (lv' := [(3, .int (nI N)), (2, .int (nI n)), (0, .ref a), (1, .int (nI (n + 1)))]) hx hb dJx4a65c_grow_92f84_30 rfl hl (by decide) rfl (fun ls hl => ?_)
  refine lv_aload_n hx hb dJx4a65c_grow_92f84_31 rfl (lv_at hl 2 rfl) ?_
  refine lv_aload_n hx hb dJx4a65c_grow_92f84_32 rfl (lv_at hl 2 rfl) ?_
  refine va_get (D := D) (ci := 3) (C := RJx4a65c) (T := TJx4a65c) (N := 3) hx hb hts hin_Jx4a65c hown hK hP q hq rfl 1 (by decide) hf_9 (fun _ h9 => h9) rfl dJx4a65c_grow_92f84_33 ?_
  refine lv_iload_n hx hb dJx4a65c_grow_92f84_36 rfl (lv_at hl 0 rfl) ?_
  refine fw_crS (S := Nat) (post := fun r u => r = u) (wf := fun u : Nat => ws ++ [(u, .inl (k 3, N, .inr (.inr (.inr (.inr (va_cpy f (fun _ => none) 0 0 n))))))]) (wN := fun u : Nat => ws ++ [(u, .inl (k 3, N, .inr (.inr (.inr (.inr (va_cpy f (fun _ => none) 0 0 n))))))]) (As := [.ref b, .int (nI N)]) (rest := [.ref a]) hC (c_cp2 l D k ws qa b n N f hqa hel (by omega) (by omega)) (va_cwS 2 hts (gA_S A_645 A_646 A_13 A_635) rfl rfl rfl (by decide +kernel) ⟨(Nat.le_of_ble_eq_true rfl), (Nat.le_of_ble_eq_true rfl)⟩) rfl hl.1 rfl (Nat.le_of_ble_eq_true rfl) dJx4a65c_grow_92f84_37 ⟨(Nat.le_of_ble_eq_true rfl), (Nat.le_of_ble_eq_true rfl)⟩ hP hD hS Jn.same (fun r8 r9 H locs hP hD hS hr9 => ?_)
  obtain rfl : r8 = r9 := hr9
  refine lv_dup_x1 hx hb dJx4a65c_grow_92f84_40 rfl rfl ?_
  refine va_put (D := D) (ci := 3) (v := .ref r8) (ty := .array (.object "java/lang/Object")) (C := RJx4a65c) (T := TJx4a65c) (N := 3) hx hb hts hin_Jx4a65c tyJx4a65c tyJx4a65c_ok nmJx4a65c hown hK hP hD hS q (app_l hq) rfl 1 (by decide) hf_9 (fun _ h9 => h9) rfl (by decide +kernel) rfl rfl (Nat.le_of_ble_eq_true rfl) dJx4a65c_grow_92f84_41 (fun H locs hP hD hS => ?_)
  rw [List.set_append_left _ _ ((List.getElem?_eq_some_iff.mp hq).1)] at hP hD
  exact hret r8 r8 _ _ _ _ _ _ dJx4a65c_grow_92f84_44 hP hD hS (Nat.le_of_ble_eq_true rfl) (by first | omega | exact Nat.le_of_ble_eq_true rfl) rfl
abbrev rm_gr_grow : Room := { frames := 4, cells := 1, slots := 33, locals := 147 }
abbrev wq_gr_grow : List Cond := Cond.code yJx4a65c_grow_d5877 cJx4a65c_grow_d5877 1 (some (.array (.object "java/lang/Object"))) :: wALL
set_option maxHeartbeats 4000000 in
set_option maxRecDepth 100000 in
theorem c_gr_grow (l : Launch) (D : va_G) (k : Nat → Nat) (ws : va_W) (q a b qa n N : Nat) (f : Nat → Option Nat) (m7 : Int32) (hq : ws[q]? = some (a, .inr (3, [.int m7, .ref b, .int (nI n)]))) (hqa : ws[qa]? = some (b, .inl (k 3, n, .inr (.inr (.inr (.inr f)))))) (hel : ∀ (i y : Nat), f i = some y → (∃ (j : Nat) (fs : List Value), ws[j]? = some (y, .inr (11, fs))) ∨ ∃ (j : Nat) (u : Nat → Int32), ws[j]? = some (y, .inl (k 0, 5, .inl u))) (ht : (n = 10 ∧ N = 15) ∨ (n = 15 ∧ N = 22) ∨ (n = 22 ∧ N = 33)) {sz : Nat} : Met l yJx4a65c_grow_d5877 wq_gr_grow rm_gr_grow (va_Pc [.ref a] (Pw D k ws sz)) (va_Qr (fun w9 : Nat × Nat => w9.1 = w9.2) (fun w9 a9 t9 => a9 = w9.1 ∧ Bw D ws sz (ws.set q (a, .inr (3, [.int m7, .ref w9.2, .int (nI n)])) ++ [(w9.2, .inl (k 3, N, .inr (.inr (.inr (.inr (va_cpy f (fun _ => none) 0 0 n))))))]) t9) (va_A ws sz)) 1 33 (va_A ws sz) := by
  refine fw_r (Or.inr ⟨_, rfl⟩) (post := fun r (u : Nat) => r = u) (y := yJx4a65c_grow_d5877) (wsy := wq_gr_grow) (cc := cJx4a65c_grow_d5877) (maxL := 1) (rm := rm_gr_grow) (mc := 1) (ms := 33) (D := D) (k := k) (W0 := ws) (av := [.ref a]) (wf := fun u : Nat => ws.set q (a, .inr (3, [.int m7, .ref u, .int (nI n)])) ++ [(u, .inl (k 3, N, .inr (.inr (.inr (.inr (va_cpy f (fun _ => none) 0 0 n))))))]) (by decide) rfl (Nat.le_of_ble_eq_true rfl) ?_
  intro p e s m args below meth c A Q ls hC hP hD hl hret
  obtain ⟨⟨hx, hb, hml, hown, hts⟩, hG, hA⟩ := id hC
  have hK := hG.1
  have hS : va_S A s.heap s.heap [] := va_S.rf
  have hin_Jx4a65c : ∀ w ∈ u_ws RJx4a65c TJx4a65c 3, w ∈ wq_gr_grow := fun w h => List.mem_cons_of_mem _ (iU_Jx4a65c w h)
  have hf_48 := hts _ (List.mem_cons_of_mem _ A_603)
  have hl : lv_has ls 1 [(0, .ref a)] := hl
  have hown : s.vm.findClass RJx4a65c = some m.cls := hown
  refine lv_aload_n hx hb dJx4a65c_grow_d5877_0 rfl (lv_at hl 0 rfl) ?_
  refine lv_aload_n hx hb dJx4a65c_grow_d5877_1 rfl (lv_at hl 0 rfl) ?_
  refine va_get (D := D) (ci := 3) (C := RJx4a65c) (T := TJx4a65c) (N := 3) hx hb hts hin_Jx4a65c hown hK hP q hq rfl 2 (by decide) hf_48 (fun _ h9 => h9) rfl dJx4a65c_grow_d5877_2 ?_
  refine lv_iconst (v := 1) hx hb dJx4a65c_grow_d5877_5 (by decide) ?_
  refine lv_iadd hx hb dJx4a65c_grow_d5877_6 ?_
  rw [← nI_succ]
  refine fw_crV (S := Nat) (post := fun r u => r = u) (wf := fun u : Nat => ws.set q (a, .inr (3, [.int m7, .ref u, .int (nI n)])) ++ [(u, .inl (k 3, N, .inr (.inr (.inr (.inr (va_cpy f (fun _ => none) 0 0 n))))))]) (wN := fun u : Nat => ws.set q (a, .inr (3, [.int m7, .ref u, .int (nI n)])) ++ [(u, .inl (k 3, N, .inr (.inr (.inr (.inr (va_cpy f (fun _ => none) 0 0 n))))))]) (As := [.int (nI (n + 1))]) (rest := []) hC (c_gi_grow l D k ws q a b qa n N f m7 (nI n) hq hqa hel ht) (cwV 1 hts (gA_V A_648 A_649 A_650 A_583 A_647) rfl rfl rfl (by decide +kernel) ⟨(Nat.le_of_ble_eq_true rfl), (Nat.le_of_ble_eq_true rfl)⟩) (va_recv hK hP (ci := 3) (q0 := q) rfl hq) rfl hl.1 rfl (Nat.le_of_ble_eq_true rfl) dJx4a65c_grow_d5877_7 ⟨(Nat.le_of_ble_eq_true rfl), (Nat.le_of_ble_eq_true rfl)⟩ hP hD hS Jn.same (fun r8 r9 H locs hP hD hS hr9 => ?_)
  obtain rfl : r8 = r9 := hr9
  exact hret r8 r8 _ _ _ _ _ _ dJx4a65c_grow_d5877_10 hP hD hS (Nat.le_of_ble_eq_true rfl) (by first | omega | exact Nat.le_of_ble_eq_true rfl) rfl
abbrev rm_a3_grow : Room := { frames := 5, cells := 1, slots := 33, locals := 167 }
abbrev wq_a3_grow : List Cond := Cond.code yJx4a65c_add_72be8 cJx4a65c_add_72be8 4 none :: wALL
set_option maxHeartbeats 4000000 in
set_option maxRecDepth 100000 in
theorem c_a3_grow (l : Launch) (D : va_G) (k : Nat → Nat) (ws : va_W) (q a b qa n N : Nat) (f : Nat → Option Nat) (m7 : Int32) (hq : ws[q]? = some (a, .inr (3, [.int m7, .ref b, .int (nI n)]))) (hqa : ws[qa]? = some (b, .inl (k 3, n, .inr (.inr (.inr (.inr f)))))) (hel : ∀ (i y : Nat), f i = some y → (∃ (j : Nat) (fs : List Value), ws[j]? = some (y, .inr (11, fs))) ∨ ∃ (j : Nat) (u : Nat → Int32), ws[j]? = some (y, .inl (k 0, 5, .inl u))) (ht : (n = 10 ∧ N = 15) ∨ (n = 15 ∧ N = 22) ∨ (n = 22 ∧ N = 33)) (y : Nat) (hy : (∃ (j : Nat) (fs : List Value), j ≠ q ∧ ws[j]? = some (y, .inr (11, fs))) ∨ ∃ (j : Nat) (u : Nat → Int32), j ≠ q ∧ ws[j]? = some (y, .inl (k 0, 5, .inl u))) {sz : Nat} : Met l yJx4a65c_add_72be8 wq_a3_grow rm_a3_grow (va_Pc [.ref a, .ref y, .ref b, .int (nI n)] (Pw D k ws sz)) (va_Qv (fun _ : Nat => True) (fun u => Bw D ws sz (ws.set q (a, .inr (3, [.int m7, .ref u, .int (nI (n + 1))])) ++ [(u, .inl (k 3, N, .inr (.inr (.inr (.inr (va_up (va_cpy f (fun _ => none) 0 0 n) n (some y)))))))])) (va_A ws sz)) 1 33 (va_A ws sz) := by
  refine fw_v (post := fun _ : Nat => True) (y := yJx4a65c_add_72be8) (wsy := wq_a3_grow) (cc := cJx4a65c_add_72be8) (maxL := 4) (rm := rm_a3_grow) (mc := 1) (ms := 33) (D := D) (k := k) (W0 := ws) (av := [.ref a, .ref y, .ref b, .int (nI n)]) (wf := fun u : Nat => ws.set q (a, .inr (3, [.int m7, .ref u, .int (nI (n + 1))])) ++ [(u, .inl (k 3, N, .inr (.inr (.inr (.inr (va_up (va_cpy f (fun _ => none) 0 0 n) n (some y)))))))]) (by decide) rfl (Nat.le_of_ble_eq_true rfl) ?_
  intro p e s m args below meth c A Q ls hC hP hD hl hmn hret
  obtain ⟨⟨hx, hb, hml, hown, hts⟩, hG, hA⟩ := id hC
  have hK := hG.1
  have hS : va_S A s.heap s.heap [] := va_S.rf
  have hin_Jx4a65c : ∀ w ∈ u_ws RJx4a65c TJx4a65c 3, w ∈ wq_a3_grow := fun w h => List.mem_cons_of_mem _ (iU_Jx4a65c w h)
  have hf_48 := hts _ (List.mem_cons_of_mem _ A_603)
  have hl : lv_has ls 4 [(0, .ref a), (1, .ref y), (2, .ref b), (3, .int (nI n))] := hl
  have hown : s.vm.findClass RJx4a65c = some m.cls := hown
  refine lv_iload_n hx hb dJx4a65c_add_72be8_0 rfl (lv_at hl 3 rfl) ?_
  refine lv_aload_n hx hb dJx4a65c_add_72be8_1 rfl (lv_at hl 2 rfl) ?_
  refine va_alen hx hb hK hP qa 3 hqa rfl (v := nI n) rfl dJx4a65c_add_72be8_2 ?_
  refine lv_icmp_ne (tgt := 11) hx hb dJx4a65c_add_72be8_3 (by decide) (fun h9 => absurd rfl h9) (fun _ => ?_)
  refine lv_aload_n hx hb dJx4a65c_add_72be8_6 rfl (lv_at hl 0 rfl) ?_
  refine fw_crV (S := Nat) (post := fun r u => r = u) (wf := fun u : Nat => ws.set q (a, .inr (3, [.int m7, .ref u, .int (nI n)])) ++ [(u, .inl (k 3, N, .inr (.inr (.inr (.inr (va_cpy f (fun _ => none) 0 0 n))))))]) (wN := fun u : Nat => ws.set q (a, .inr (3, [.int m7, .ref u, .int (nI n)])) ++ [(u, .inl (k 3, N, .inr (.inr (.inr (.inr (va_cpy f (fun _ => none) 0 0 n))))))]) (As := []) (rest := []) hC (c_gr_grow l D k ws q a b qa n N f m7 hq hqa hel ht) (cwV 0 hts (gA_V A_652 A_653 A_654 A_583 A_651) rfl rfl rfl (by decide +kernel) ⟨(Nat.le_of_ble_eq_true rfl), (Nat.le_of_ble_eq_true rfl)⟩) (va_recv hK hP (ci := 3) (q0 := q) rfl hq) rfl hl.1 rfl (Nat.le_of_ble_eq_true rfl) dJx4a65c_add_72be8_7 ⟨(Nat.le_of_ble_eq_true rfl), (Nat.le_of_ble_eq_true rfl)⟩ hP hD hS Jn.same (fun r8 r9 H locs hP hD hS hr9 => ?_)
  obtain rfl : r8 = r9 := hr9
  refine lv_astore_n (lv' := [(2, .ref r8), (0, .ref a), (1, .ref y), (3, .int (nI n))]) hx hb dJx4a65c_add_72be8_10 rfl hl (by decide) rfl (fun ls hl => ?_)
  refine lv_aload_n hx hb dJx4a65c_add_72be8_11 rfl (lv_at hl 0 rfl) ?_
  refine lv_iload_n hx hb dJx4a65c_add_72be8_12 rfl (lv_at hl 3 rfl) ?_
  refine lv_aload_n hx hb dJx4a65c_add_72be8_13 rfl (lv_at hl 2 rfl) ?_
  refine va_astqM hx hb hK hP hD hS ((ws.set q (a, .inr (3, [.int m7, .ref r8, .int (nI n)]))).length + 0) 3 (app_r rfl) rfl (el_any hG hK (P_left hP) (el_set hy)) (vp_in_nI (by omega) (by omega)) dJx4a65c_add_72be8_14 (fun H locs hP hD hS => ?_)
  rw [sapp rfl 0, nI_clamp (show n < 2 ^ 31 by omega)] at hP hD
  refine lv_aload_n hx hb dJx4a65c_add_72be8_15 rfl (lv_at hl 1 rfl) ?_
  refine lv_iload_n hx hb dJx4a65c_add_72be8_16 rfl (lv_at hl 3 rfl) ?_
  refine lv_iconst (v := 1) hx hb dJx4a65c_add_72be8_17 (by decide) ?_
  refine lv_iadd hx hb dJx4a65c_add_72be8_18 ?_
  rw [← nI_succ]
  refine va_put (D := D) (ci := 3) (v := .int (nI (n + 1))) (ty := .int) (C := RJx4a65c) (T := TJx4a65c) (N := 3) hx hb hts hin_Jx4a65c tyJx4a65c tyJx4a65c_ok nmJx4a65c hown hK hP hD hS q (app_l (List.getElem?_set_self (List.getElem?_eq_some_iff.mp hq).1)) rfl 2 (by decide) hf_48 (fun _ h9 => h9) rfl (by decide +kernel) rfl rfl (Nat.le_of_ble_eq_true rfl) dJx4a65c_add_72be8_19 (fun H locs hP hD hS => ?_)
  rw [List.set_append_left _ _ (by rw [List.length_set]; exact (List.getElem?_eq_some_iff.mp hq).1), List.set_set] at hP hD
  exact hret r8 _ _ _ _ _ _ dJx4a65c_add_72be8_22 hP hD hS (Nat.le_of_ble_eq_true rfl) (by first | omega | exact Nat.le_of_ble_eq_true rfl) trivial
abbrev rm_ad_grow : Room := { frames := 6, cells := 1, slots := 33, locals := 190 }
abbrev wq_ad_grow : List Cond := Cond.code yJx4a65c_add_9ea2d cJx4a65c_add_9ea2d 2 (some .boolean) :: wALL
set_option maxHeartbeats 4000000 in
set_option maxRecDepth 100000 in
theorem c_ad_grow (l : Launch) (D : va_G) (k : Nat → Nat) (ws : va_W) (q a b qa n N : Nat) (f : Nat → Option Nat) (m7 : Int32) (hq : ws[q]? = some (a, .inr (3, [.int m7, .ref b, .int (nI n)]))) (hqa : ws[qa]? = some (b, .inl (k 3, n, .inr (.inr (.inr (.inr f)))))) (hel : ∀ (i y : Nat), f i = some y → (∃ (j : Nat) (fs : List Value), ws[j]? = some (y, .inr (11, fs))) ∨ ∃ (j : Nat) (u : Nat → Int32), ws[j]? = some (y, .inl (k 0, 5, .inl u))) (ht : (n = 10 ∧ N = 15) ∨ (n = 15 ∧ N = 22) ∨ (n = 22 ∧ N = 33)) (y : Nat) (hy : (∃ (j : Nat) (fs : List Value), j ≠ q ∧ ws[j]? = some (y, .inr (11, fs))) ∨ ∃ (j : Nat) (u : Nat → Int32), j ≠ q ∧ ws[j]? = some (y, .inl (k 0, 5, .inl u))) {sz : Nat} : Met l yJx4a65c_add_9ea2d wq_ad_grow rm_ad_grow (va_Pc [.ref a, .ref y] (Pw D k ws sz)) (va_Qi (fun r (_ : Nat) => r = 1) (fun u => Bw D ws sz (ws.set q (a, .inr (3, [.int (m7 + 1), .ref u, .int (nI (n + 1))])) ++ [(u, .inl (k 3, N, .inr (.inr (.inr (.inr (va_up (va_cpy f (fun _ => none) 0 0 n) n (some y)))))))])) (va_A ws sz)) 1 33 (va_A ws sz) := by
  refine fw_i (post := fun r (_ : Nat) => r = 1) (y := yJx4a65c_add_9ea2d) (wsy := wq_ad_grow) (cc := cJx4a65c_add_9ea2d) (maxL := 2) (rm := rm_ad_grow) (mc := 1) (ms := 33) (D := D) (k := k) (W0 := ws) (av := [.ref a, .ref y]) (wf := fun u : Nat => ws.set q (a, .inr (3, [.int (m7 + 1), .ref u, .int (nI (n + 1))])) ++ [(u, .inl (k 3, N, .inr (.inr (.inr (.inr (va_up (va_cpy f (fun _ => none) 0 0 n) n (some y)))))))]) (by decide) rfl (Nat.le_of_ble_eq_true rfl) ?_
  intro p e s m args below meth c A Q ls hC hP hD hl hret
  obtain ⟨⟨hx, hb, hml, hown, hts⟩, hG, hA⟩ := id hC
  have hK := hG.1
  have hS : va_S A s.heap s.heap [] := va_S.rf
  have hin_Jx4a65c : ∀ w ∈ u_ws RJx4a65c TJx4a65c 3, w ∈ wq_ad_grow := fun w h => List.mem_cons_of_mem _ (iU_Jx4a65c w h)
  have hf_63 := hts _ (List.mem_cons_of_mem _ A_656)
  have hf_9 := hts _ (List.mem_cons_of_mem _ A_574)
  have hf_48 := hts _ (List.mem_cons_of_mem _ A_603)
  have hl : lv_has ls 2 [(0, .ref a), (1, .ref y)] := hl
  have hown : s.vm.findClass RJx4a65c = some m.cls := hown
  refine lv_aload_n hx hb dJx4a65c_add_9ea2d_0 rfl (lv_at hl 0 rfl) ?_
  refine lv_dup hx hb dJx4a65c_add_9ea2d_1 rfl ?_
  refine va_get (D := D) (ci := 3) (C := RJx4a65c) (T := TJx4a65c) (N := 3) hx hb hts hin_Jx4a65c hown hK hP q hq rfl 0 (by decide) hf_63 (fun x9 h9 => u_same (hts _ (List.mem_cons_of_mem _ A_657)) x9 h9) rfl dJx4a65c_add_9ea2d_2 ?_
  refine lv_iconst (v := 1) hx hb dJx4a65c_add_9ea2d_5 (by decide) ?_
  refine lv_iadd hx hb dJx4a65c_add_9ea2d_6 ?_
  refine va_put (D := D) (ci := 3) (v := .int (m7 + 1)) (ty := .int) (C := RJx4a65c) (T := TJx4a65c) (N := 3) hx hb hts hin_Jx4a65c tyJx4a65c tyJx4a65c_ok nmJx4a65c hown hK hP hD hS q hq rfl 0 (by decide) hf_63 (fun x9 h9 => u_same (hts _ (List.mem_cons_of_mem _ A_657)) x9 h9) rfl (by decide +kernel) rfl rfl (Nat.le_of_ble_eq_true rfl) dJx4a65c_add_9ea2d_7 (fun H locs hP hD hS => ?_)
  refine lv_aload_n hx hb dJx4a65c_add_9ea2d_10 rfl (lv_at hl 0 rfl) ?_
  refine lv_aload_n hx hb dJx4a65c_add_9ea2d_11 rfl (lv_at hl 1 rfl) ?_
  refine lv_aload_n hx hb dJx4a65c_add_9ea2d_12 rfl (lv_at hl 0 rfl) ?_
  refine va_get (D := D) (ci := 3) (C := RJx4a65c) (T := TJx4a65c) (N := 3) hx hb hts hin_Jx4a65c hown hK hP q (List.getElem?_set_self (List.getElem?_eq_some_iff.mp hq).1) rfl 1 (by decide) hf_9 (fun _ h9 => h9) rfl dJx4a65c_add_9ea2d_13 ?_
  refine lv_aload_n hx hb dJx4a65c_add_9ea2d_16 rfl (lv_at hl 0 rfl) ?_
  refine va_get (D := D) (ci := 3) (C := RJx4a65c) (T := TJx4a65c) (N := 3) hx hb hts hin_Jx4a65c hown hK hP q (List.getElem?_set_self (List.getElem?_eq_some_iff.mp hq).1) rfl 2 (by decide) hf_48 (fun _ h9 => h9) rfl dJx4a65c_add_9ea2d_17 ?_
  refine fw_cvV (S := Nat) (post := fun _ => True) (wf := fun u : Nat => (ws.set q (a, .inr (3, [.int (m7 + 1), .ref b, .int (nI n)]))).set q (a, .inr (3, [.int (m7 + 1), .ref u, .int (nI (n + 1))])) ++ [(u, .inl (k 3, N, .inr (.inr (.inr (.inr (va_up (va_cpy f (fun _ => none) 0 0 n) n (some y)))))))]) (wN := fun u : Nat => (ws.set q (a, .inr (3, [.int (m7 + 1), .ref b, .int (nI n)]))).set q (a, .inr (3, [.int (m7 + 1), .ref u, .int (nI (n + 1))])) ++ [(u, .inl (k 3, N, .inr (.inr (.inr (.inr (va_up (va_cpy f (fun _ => none) 0 0 n) n (some y)))))))]) (As := [.ref y, .ref b, .int (nI n)]) (rest := []) hC (c_a3_grow l D k (ws.set q (a, .inr (3, [.int (m7 + 1), .ref b, .int (nI n)]))) q a b qa n N f (m7 + 1) (List.getElem?_set_self (List.getElem?_eq_some_iff.mp hq).1) (by rw [List.getElem?_set_ne (by intro h9; subst h9; rw [hq] at hqa; cases hqa)]; exact hqa) (fun i9 y9 h9 => el_setx hq (hel i9 y9 h9)) ht y (el_sets hy)) (cwV 3 hts (gA_V A_658 A_659 A_660 A_583 A_655) rfl rfl rfl (by decide +kernel) ⟨(Nat.le_of_ble_eq_true rfl), (Nat.le_of_ble_eq_true rfl)⟩) (va_recv hK hP (ci := 3) (q0 := q) rfl (List.getElem?_set_self (List.getElem?_eq_some_iff.mp hq).1)) rfl hl.1 rfl (Nat.le_of_ble_eq_true rfl) dJx4a65c_add_9ea2d_20 ⟨(Nat.le_of_ble_eq_true rfl), (Nat.le_of_ble_eq_true rfl)⟩ hP hD hS Jn.same (fun r8 H locs hP hD hS _ => ?_)
  rw [List.set_set] at hP hD
  refine lv_iconst (v := 1) hx hb dJx4a65c_add_9ea2d_23 (by decide) ?_
  exact hret 1 r8 _ _ _ _ _ _ dJx4a65c_add_9ea2d_24 (by decide) hP hD hS (Nat.le_of_ble_eq_true rfl) (by first | omega | exact Nat.le_of_ble_eq_true rfl) rfl
abbrev rm_a3_room : Room := { frames := 0, cells := 0, slots := 0, locals := 0 }
abbrev wq_a3_room : List Cond := Cond.code yJx4a65c_add_72be8 cJx4a65c_add_72be8 4 none :: wALL
set_option maxHeartbeats 4000000 in
set_option maxRecDepth 100000 in
theorem c_a3_room (l : Launch) (D : va_G) (k : Nat → Nat) (ws : va_W) (q a b qa n c7 : Nat) (f : Nat → Option Nat) (m7 : Int32) (hq : ws[q]? = some (a, .inr (3, [.int m7, .ref b, .int (nI c7)]))) (hqa : ws[qa]? = some (b, .inl (k 3, n, .inr (.inr (.inr (.inr f)))))) (hc : c7 < n) (hn : n ≤ 33) (y : Nat) (hy : (∃ (j : Nat) (fs : List Value), j ≠ q ∧ ws[j]? = some (y, .inr (11, fs))) ∨ ∃ (j : Nat) (u : Nat → Int32), j ≠ q ∧ ws[j]? = some (y, .inl (k 0, 5, .inl u))) {sz : Nat} : Met l yJx4a65c_add_72be8 wq_a3_room rm_a3_room (va_Pc [.ref a, .ref y, .ref b, .int (nI c7)] (Pw D k ws sz)) (va_Qv (fun _ : Nat => True) (fun u => Bw D ws sz ((ws.set qa (b, .inl (k 3, n, .inr (.inr (.inr (.inr (va_up f c7 (some y)))))))).set q (a, .inr (3, [.int m7, .ref b, .int (nI (c7 + 1))])))) (va_A ws sz)) 0 0 (va_A ws sz) := by
  refine fw_v (post := fun _ : Nat => True) (y := yJx4a65c_add_72be8) (wsy := wq_a3_room) (cc := cJx4a65c_add_72be8) (maxL := 4) (rm := rm_a3_room) (mc := 0) (ms := 0) (D := D) (k := k) (W0 := ws) (av := [.ref a, .ref y, .ref b, .int (nI c7)]) (wf := fun u : Nat => (ws.set qa (b, .inl (k 3, n, .inr (.inr (.inr (.inr (va_up f c7 (some y)))))))).set q (a, .inr (3, [.int m7, .ref b, .int (nI (c7 + 1))]))) (by decide) rfl (Nat.le_of_ble_eq_true rfl) ?_
  intro p e s m args below meth c A Q ls hC hP hD hl hmn hret
  obtain ⟨⟨hx, hb, hml, hown, hts⟩, hG, hA⟩ := id hC
  have hK := hG.1
  have hS : va_S A s.heap s.heap [] := va_S.rf
  have hin_Jx4a65c : ∀ w ∈ u_ws RJx4a65c TJx4a65c 3, w ∈ wq_a3_room := fun w h => List.mem_cons_of_mem _ (iU_Jx4a65c w h)
  have hf_48 := hts _ (List.mem_cons_of_mem _ A_603)
  have hl : lv_has ls 4 [(0, .ref a), (1, .ref y), (2, .ref b), (3, .int (nI c7))] := hl
  have hown : s.vm.findClass RJx4a65c = some m.cls := hown
  refine lv_iload_n hx hb dJx4a65c_add_72be8_0 rfl (lv_at hl 3 rfl) ?_
  refine lv_aload_n hx hb dJx4a65c_add_72be8_1 rfl (lv_at hl 2 rfl) ?_
  refine va_alen hx hb hK hP qa 3 hqa rfl (v := nI n) rfl dJx4a65c_add_72be8_2 ?_
  refine lv_icmp_ne (tgt := 11) hx hb dJx4a65c_add_72be8_3 (by decide) (fun _ => ?_) (fun h9 => absurd h9 (nI_ne (by omega) (by omega) (by omega)))
  refine lv_aload_n hx hb dJx4a65c_add_72be8_11 rfl (lv_at hl 2 rfl) ?_
  refine lv_iload_n hx hb dJx4a65c_add_72be8_12 rfl (lv_at hl 3 rfl) ?_
  refine lv_aload_n hx hb dJx4a65c_add_72be8_13 rfl (lv_at hl 1 rfl) ?_
  refine va_astqM hx hb hK hP hD hS qa 3 hqa rfl (el_any hG hK hP (el_w hy)) (vp_in_nI (by omega) (by omega)) dJx4a65c_add_72be8_14 (fun H locs hP hD hS => ?_)
  rw [nI_clamp (show c7 < 2 ^ 31 by omega)] at hP hD
  refine lv_aload_n hx hb dJx4a65c_add_72be8_15 rfl (lv_at hl 0 rfl) ?_
  refine lv_iload_n hx hb dJx4a65c_add_72be8_16 rfl (lv_at hl 3 rfl) ?_
  refine lv_iconst (v := 1) hx hb dJx4a65c_add_72be8_17 (by decide) ?_
  refine lv_iadd hx hb dJx4a65c_add_72be8_18 ?_
  rw [← nI_succ]
  refine va_put (D := D) (ci := 3) (v := .int (nI (c7 + 1))) (ty := .int) (C := RJx4a65c) (T := TJx4a65c) (N := 3) hx hb hts hin_Jx4a65c tyJx4a65c tyJx4a65c_ok nmJx4a65c hown hK hP hD hS q (by rw [List.getElem?_set_ne (by intro h9; subst h9; rw [hq] at hqa; cases hqa)]; exact hq) rfl 2 (by decide) hf_48 (fun _ h9 => h9) rfl (by decide +kernel) rfl rfl (Nat.le_of_ble_eq_true rfl) dJx4a65c_add_72be8_19 (fun H locs hP hD hS => ?_)
  exact hret 0 _ _ _ _ _ _ dJx4a65c_add_72be8_22 hP hD hS (Nat.le_of_ble_eq_true rfl) (by first | omega | exact Nat.le_of_ble_eq_true rfl) trivial
abbrev rm_ad_room : Room := { frames := 1, cells := 0, slots := 0, locals := 23 }
abbrev wq_ad_room : List Cond := Cond.code yJx4a65c_add_9ea2d cJx4a65c_add_9ea2d 2 (some .boolean) :: wALL
set_option maxHeartbeats 4000000 in
set_option maxRecDepth 100000 in
theorem c_ad_room (l : Launch) (D : va_G) (k : Nat → Nat) (ws : va_W) (q a b qa n c7 : Nat) (f : Nat → Option Nat) (m7 : Int32) (hq : ws[q]? = some (a, .inr (3, [.int m7, .ref b, .int (nI c7)]))) (hqa : ws[qa]? = some (b, .inl (k 3, n, .inr (.inr (.inr (.inr f)))))) (hc : c7 < n) (hn : n ≤ 33) (y : Nat) (hy : (∃ (j : Nat) (fs : List Value), j ≠ q ∧ ws[j]? = some (y, .inr (11, fs))) ∨ ∃ (j : Nat) (u : Nat → Int32), j ≠ q ∧ ws[j]? = some (y, .inl (k 0, 5, .inl u))) {sz : Nat} : Met l yJx4a65c_add_9ea2d wq_ad_room rm_ad_room (va_Pc [.ref a, .ref y] (Pw D k ws sz)) (va_Qi (fun r (_ : Nat) => r = 1) (fun u => Bw D ws sz ((ws.set qa (b, .inl (k 3, n, .inr (.inr (.inr (.inr (va_up f c7 (some y)))))))).set q (a, .inr (3, [.int (m7 + 1), .ref b, .int (nI (c7 + 1))])))) (va_A ws sz)) 0 0 (va_A ws sz) := by
  refine fw_i (post := fun r (_ : Nat) => r = 1) (y := yJx4a65c_add_9ea2d) (wsy := wq_ad_room) (cc := cJx4a65c_add_9ea2d) (maxL := 2) (rm := rm_ad_room) (mc := 0) (ms := 0) (D := D) (k := k) (W0 := ws) (av := [.ref a, .ref y]) (wf := fun u : Nat => (ws.set qa (b, .inl (k 3, n, .inr (.inr (.inr (.inr (va_up f c7 (some y)))))))).set q (a, .inr (3, [.int (m7 + 1), .ref b, .int (nI (c7 + 1))]))) (by decide) rfl (Nat.le_of_ble_eq_true rfl) ?_
  intro p e s m args below meth c A Q ls hC hP hD hl hret
  obtain ⟨⟨hx, hb, hml, hown, hts⟩, hG, hA⟩ := id hC
  have hK := hG.1
  have hS : va_S A s.heap s.heap [] := va_S.rf
  have hin_Jx4a65c : ∀ w ∈ u_ws RJx4a65c TJx4a65c 3, w ∈ wq_ad_room := fun w h => List.mem_cons_of_mem _ (iU_Jx4a65c w h)
  have hf_63 := hts _ (List.mem_cons_of_mem _ A_656)
  have hf_9 := hts _ (List.mem_cons_of_mem _ A_574)
  have hf_48 := hts _ (List.mem_cons_of_mem _ A_603)
  have hl : lv_has ls 2 [(0, .ref a), (1, .ref y)] := hl
  have hown : s.vm.findClass RJx4a65c = some m.cls := hown
  refine lv_aload_n hx hb dJx4a65c_add_9ea2d_0 rfl (lv_at hl 0 rfl) ?_
  refine lv_dup hx hb dJx4a65c_add_9ea2d_1 rfl ?_
  refine va_get (D := D) (ci := 3) (C := RJx4a65c) (T := TJx4a65c) (N := 3) hx hb hts hin_Jx4a65c hown hK hP q hq rfl 0 (by decide) hf_63 (fun x9 h9 => u_same (hts _ (List.mem_cons_of_mem _ A_657)) x9 h9) rfl dJx4a65c_add_9ea2d_2 ?_
  refine lv_iconst (v := 1) hx hb dJx4a65c_add_9ea2d_5 (by decide) ?_
  refine lv_iadd hx hb dJx4a65c_add_9ea2d_6 ?_
  refine va_put (D := D) (ci := 3) (v := .int (m7 + 1)) (ty := .int) (C := RJx4a65c) (T := TJx4a65c) (N := 3) hx hb hts hin_Jx4a65c tyJx4a65c tyJx4a65c_ok nmJx4a65c hown hK hP hD hS q hq rfl 0 (by decide) hf_63 (fun x9 h9 => u_same (hts _ (List.mem_cons_of_mem _ A_657)) x9 h9) rfl (by decide +kernel) rfl rfl (Nat.le_of_ble_eq_true rfl) dJx4a65c_add_9ea2d_7 (fun H locs hP hD hS => ?_)
  refine lv_aload_n hx hb dJx4a65c_add_9ea2d_10 rfl (lv_at hl 0 rfl) ?_
  refine lv_aload_n hx hb dJx4a65c_add_9ea2d_11 rfl (lv_at hl 1 rfl) ?_
  refine lv_aload_n hx hb dJx4a65c_add_9ea2d_12 rfl (lv_at hl 0 rfl) ?_
  refine va_get (D := D) (ci := 3) (C := RJx4a65c) (T := TJx4a65c) (N := 3) hx hb hts hin_Jx4a65c hown hK hP q (List.getElem?_set_self (List.getElem?_eq_some_iff.mp hq).1) rfl 1 (by decide) hf_9 (fun _ h9 => h9) rfl dJx4a65c_add_9ea2d_13 ?_
  refine lv_aload_n hx hb dJx4a65c_add_9ea2d_16 rfl (lv_at hl 0 rfl) ?_
  refine va_get (D := D) (ci := 3) (C := RJx4a65c) (T := TJx4a65c) (N := 3) hx hb hts hin_Jx4a65c hown hK hP q (List.getElem?_set_self (List.getElem?_eq_some_iff.mp hq).1) rfl 2 (by decide) hf_48 (fun _ h9 => h9) rfl dJx4a65c_add_9ea2d_17 ?_
  refine fw_cvV (S := Nat) (post := fun _ => True) (wf := fun u : Nat => ((ws.set q (a, .inr (3, [.int (m7 + 1), .ref b, .int (nI c7)]))).set qa (b, .inl (k 3, n, .inr (.inr (.inr (.inr (va_up f c7 (some y)))))))).set q (a, .inr (3, [.int (m7 + 1), .ref b, .int (nI (c7 + 1))]))) (wN := fun u : Nat => ((ws.set q (a, .inr (3, [.int (m7 + 1), .ref b, .int (nI c7)]))).set qa (b, .inl (k 3, n, .inr (.inr (.inr (.inr (va_up f c7 (some y)))))))).set q (a, .inr (3, [.int (m7 + 1), .ref b, .int (nI (c7 + 1))]))) (As := [.ref y, .ref b, .int (nI c7)]) (rest := []) hC (c_a3_room l D k (ws.set q (a, .inr (3, [.int (m7 + 1), .ref b, .int (nI c7)]))) q a b qa n c7 f (m7 + 1) (List.getElem?_set_self (List.getElem?_eq_some_iff.mp hq).1) (by rw [List.getElem?_set_ne (by intro h9; subst h9; rw [hq] at hqa; cases hqa)]; exact hqa) hc hn y (el_sets hy)) (cwV 3 hts (gA_V A_658 A_659 A_660 A_583 A_655) rfl rfl rfl (by decide +kernel) ⟨(Nat.le_of_ble_eq_true rfl), (Nat.le_of_ble_eq_true rfl)⟩) (va_recv hK hP (ci := 3) (q0 := q) rfl (List.getElem?_set_self (List.getElem?_eq_some_iff.mp hq).1)) rfl hl.1 rfl (Nat.le_of_ble_eq_true rfl) dJx4a65c_add_9ea2d_20 ⟨(Nat.le_of_ble_eq_true rfl), (Nat.le_of_ble_eq_true rfl)⟩ hP hD hS Jn.same (fun r8 H locs hP hD hS _ => ?_)
  rw [List.set_comm _ _ (show q ≠ qa by intro h9; subst h9; rw [hq] at hqa; cases hqa), List.set_set] at hP hD
  refine lv_iconst (v := 1) hx hb dJx4a65c_add_9ea2d_23 (by decide) ?_
  exact hret 1 0 _ _ _ _ _ _ dJx4a65c_add_9ea2d_24 (by decide) hP hD hS (Nat.le_of_ble_eq_true rfl) (by first | omega | exact Nat.le_of_ble_eq_true rfl) rfl
