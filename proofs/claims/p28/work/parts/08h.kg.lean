set_option maxHeartbeats 4000000 in
set_option maxRecDepth 100000 in
theorem c_J0_coder_7d493p (l : Launch) (D : va_G) (k ad : Nat → Nat) (n i : Nat) (hi : i < 2) {sz : Nat} {σ : Mem} {post : Int32 → Mem → Prop} (hp : q_J0_coder_7d493 ad n i post σ) : Met l yJ0_coder_7d493 wq_J0_coder_7d493 rm_J0_coder_7d493 (va_Pc [.ref (k (30 + i))] (Pw D k ([]) sz)) (va_Qi post (fun u => Bw D ([]) sz ([])) (va_A [] sz)) 0 0 (va_A [] sz) := by
  refine fw_i (wf := fun u : Mem => []) (by decide) rfl (Nat.le_of_ble_eq_true rfl) ?_
  intro p e s m args below meth c A Q ls hC hP hD hl hret
  obtain ⟨⟨hx, hb, hml, hown, hts⟩, hG, hA⟩ := id hC
  have hK := hG.1
  have hS : va_S A s.heap s.heap [] := va_S.rf
  have hf_38 := hts _ (List.mem_cons_of_mem _ A_478)
  have hf_15 := hts _ (List.mem_cons_of_mem _ A_476)
  have hl : lv_has ls 1 [(0, .ref (k (30 + i)))] := hl
  have hown : s.vm.findClass RJ0 = some m.cls := hown
  unfold q_J0_coder_7d493 at hp
  refine va_gets hx hb hG.2.2.2.2.2.1 hS hown hf_38 (fun _ h9 => h9) dJ0_coder_7d493_0 ?_
  refine lv_if_eq (tgt := 13) hx hb dJ0_coder_7d493_3 (by decide) (fun c9 => absurd c9 (by decide)) (fun _ => ?_)
  refine lv_aload_n hx hb dJ0_coder_7d493_6 rfl (lv_at hl 0 rfl) ?_
  refine vk_getf hx hb (hG.2.2.2.2.1.2.2.1 i hi).2.1 hS hown hf_15 (fun _ h9 => h9) dJ0_coder_7d493_7 ?_
  refine lv_goto (tgt := 14) hx hb dJ0_coder_7d493_10 (by decide) ?_
  exact hret 0 (σ) _ _ _ _ _ _ dJ0_coder_7d493_14 (by decide) hP hD hS (Nat.le_of_ble_eq_true rfl) (Nat.le_of_ble_eq_true rfl) hp
set_option maxHeartbeats 4000000 in
set_option maxRecDepth 100000 in
theorem c_J0_length_8abf5p (l : Launch) (D : va_G) (k ad : Nat → Nat) (n i : Nat) (hi : i < 2) {sz : Nat} {σ : Mem} {post : Int32 → Mem → Prop} (hp : q_J0_length_8abf5 ad n i post σ) : Met l yJ0_length_8abf5 wq_J0_length_8abf5 rm_J0_length_8abf5 (va_Pc [.ref (k (30 + i))] (Pw D k ([]) sz)) (va_Qi post (fun u => Bw D ([]) sz ([])) (va_A [] sz)) 0 0 (va_A [] sz) := by
  refine fw_i (wf := fun u : Mem => []) (by decide) rfl (Nat.le_of_ble_eq_true rfl) ?_
  intro p e s m args below meth c A Q ls hC hP hD hl hret
  obtain ⟨⟨hx, hb, hml, hown, hts⟩, hG, hA⟩ := id hC
  have hK := hG.1
  have hS : va_S A s.heap s.heap [] := va_S.rf
  have hf_9 := hts _ (List.mem_cons_of_mem _ A_477)
  have hl : lv_has ls 1 [(0, .ref (k (30 + i)))] := hl
  have hown : s.vm.findClass RJ0 = some m.cls := hown
  unfold q_J0_length_8abf5 at hp
  refine lv_aload_n hx hb dJ0_length_8abf5_0 rfl (lv_at hl 0 rfl) ?_
  refine vk_getf hx hb (hG.2.2.2.2.1.2.2.1 i hi).2.2.1 hS hown hf_9 (fun _ h9 => h9) dJ0_length_8abf5_1 ?_
  refine va_tlen hx hb (hG.2.2.2.2.1.2.2.1 i hi).2.2.2 hS (v := nI (([0, 1] : List Nat).getD i 0)) rfl dJ0_length_8abf5_4 ?_
  refine lv_aload_n hx hb dJ0_length_8abf5_5 rfl (lv_at hl 0 rfl) ?_
  refine fw_ciV (As := []) (rest := [.int (nI (([0, 1] : List Nat).getD i 0))]) hC (c_J0_coder_7d493p l D k ad n i hi hp) (cwV 0 hts (gA_V A_867 A_868 A_869 A_369 A_865) rfl rfl rfl (by decide +kernel) ⟨(Nat.le_of_ble_eq_true rfl), (Nat.le_of_ble_eq_true rfl)⟩) (vk_recv (adK := fun i => k (30 + i)) (i := i) hG.2.2.2.2.1.2.2 hi hS) rfl hl.1 rfl (Nat.le_of_ble_eq_true rfl) dJ0_length_8abf5_6 ⟨(Nat.le_of_ble_eq_true rfl), (Nat.le_of_ble_eq_true rfl)⟩ hP hD hS Jn.same (fun r1 σ2 H locs hP hD hS hp => ?_)
  refine lv_ishr hx hb dJ0_length_8abf5_9 ?_
  exact hret ((nI (([0, 1] : List Nat).getD i 0)) >>> (r1 &&& 31)) (σ2) _ _ _ _ _ _ dJ0_length_8abf5_10 rfl hP hD hS (Nat.le_of_ble_eq_true rfl) (Nat.le_of_ble_eq_true rfl) hp
