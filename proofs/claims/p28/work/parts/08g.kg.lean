theorem k_ln (i : Nat) : ¬ nI (([0, 1] : List Nat).getD i 0) < 0 ∧ (0 : Int32).toNatClampNeg + (nI (([0, 1] : List Nat).getD i 0)).toNatClampNeg ≤ ([0, 1] : List Nat).getD i 0 ∧ ([0, 1] : List Nat).getD i 0 ≤ 1 := by
  match i with
  | 0 => exact ⟨by decide, by decide, by decide⟩
  | 1 => exact ⟨by decide, by decide, by decide⟩
  | _ + 2 => exact (show ¬ nI 0 < 0 ∧ (0 : Int32).toNatClampNeg + (nI 0).toNatClampNeg ≤ 0 ∧ 0 ≤ 1 from ⟨by decide, by decide, by decide⟩)
theorem k_fit (i j : Nat) : fits .byte (.int ((([[], [33]] : List (List Int32)).getD i []).getD j 0)) = true := by
  match i, j with
  | 0, _ => rfl
  | 1, 0 => rfl
  | 1, _ + 1 => rfl
  | _ + 2, _ => rfl

def q_J0_coder_7d493 (ad : Nat → Nat) (n : Nat) (i : Nat) (post : Int32 → Mem → Prop) (σ : Mem) : Prop := post 0 (σ)
abbrev rm_J0_coder_7d493 : Room := { frames := 0, cells := 0, slots := 0, locals := 0 }
abbrev wq_J0_coder_7d493 : List Cond := Cond.code yJ0_coder_7d493 cJ0_coder_7d493 1 (some .byte) :: wALL
set_option maxHeartbeats 4000000 in
set_option maxRecDepth 100000 in
theorem c_J0_coder_7d493 (l : Launch) (D : va_G) (k ad : Nat → Nat) (n i : Nat) (hi : i < 2) {sz : Nat} {σ : Mem} {post : Int32 → Mem → Prop} (hp : q_J0_coder_7d493 ad n i post σ) : Met l yJ0_coder_7d493 wq_J0_coder_7d493 rm_J0_coder_7d493 (va_Pc [.ref (k (30 + i))] (Pw D k (WB k ad n (σ)) sz)) (va_Qi post (fun u => Bw D (WB k ad n (σ)) sz (WB k ad n u)) (va_A (WB k ad n (σ)) sz)) 0 0 (va_A (WB k ad n (σ)) sz) := by
  refine fw_i (wf := fun u : Mem => WB k ad n u) (by decide) rfl (Nat.le_of_ble_eq_true rfl) ?_
  intro p e s m args below meth c A Q ls hC hP hD hl hret
  obtain ⟨⟨hx, hb, hml, hown, hts⟩, hG, hA⟩ := id hC
  have hK := hG.1
  have hS : va_S A s.heap s.heap [] := va_S.rf
  have hf_38 := hts _ (List.mem_cons_of_mem _ A_478)
  have hf_15 := hts _ (List.mem_cons_of_mem _ A_476)
  have hl : lv_has ls 1 [(0, .ref (k (30 + i)))] := hl
  have hown : s.vm.findClass RJ0 = some m.cls := hown
  unfold q_J0_coder_7d493 at hp
  refine va_gets hx hb hG.2.2.2.2.2.1 hS hown hf_38 (fun _ h9 => h9) dJ0_coder_7d493_0 ?_
  refine lv_if_eq (tgt := 13) hx hb dJ0_coder_7d493_3 (by decide) (fun c9 => absurd c9 (by decide)) (fun _ => ?_)
  refine lv_aload_n hx hb dJ0_coder_7d493_6 rfl (lv_at hl 0 rfl) ?_
  refine vk_getf hx hb (hG.2.2.2.2.1.2.2.1 i hi).2.1 hS hown hf_15 (fun _ h9 => h9) dJ0_coder_7d493_7 ?_
  refine lv_goto (tgt := 14) hx hb dJ0_coder_7d493_10 (by decide) ?_
  exact hret 0 (σ) _ _ _ _ _ _ dJ0_coder_7d493_14 (by decide) hP hD hS (Nat.le_of_ble_eq_true rfl) (Nat.le_of_ble_eq_true rfl) hp
def q_J0_length_8abf5 (ad : Nat → Nat) (n : Nat) (i : Nat) (post : Int32 → Mem → Prop) (σ : Mem) : Prop := (q_J0_coder_7d493 ad n i (fun (r1 : Int32) (σ2 : Mem) => post ((nI (([0, 1] : List Nat).getD i 0)) >>> (r1 &&& 31)) (σ2))  (σ))
abbrev rm_J0_length_8abf5 : Room := { frames := 1, cells := 0, slots := 0, locals := 20 }
abbrev wq_J0_length_8abf5 : List Cond := Cond.code yJ0_length_8abf5 cJ0_length_8abf5 1 (some .int) :: wALL
set_option maxHeartbeats 4000000 in
set_option maxRecDepth 100000 in
theorem c_J0_length_8abf5 (l : Launch) (D : va_G) (k ad : Nat → Nat) (n i : Nat) (hi : i < 2) {sz : Nat} {σ : Mem} {post : Int32 → Mem → Prop} (hp : q_J0_length_8abf5 ad n i post σ) : Met l yJ0_length_8abf5 wq_J0_length_8abf5 rm_J0_length_8abf5 (va_Pc [.ref (k (30 + i))] (Pw D k (WB k ad n (σ)) sz)) (va_Qi post (fun u => Bw D (WB k ad n (σ)) sz (WB k ad n u)) (va_A (WB k ad n (σ)) sz)) 0 0 (va_A (WB k ad n (σ)) sz) := by
  refine fw_i (wf := fun u : Mem => WB k ad n u) (by decide) rfl (Nat.le_of_ble_eq_true rfl) ?_
  intro p e s m args below meth c A Q ls hC hP hD hl hret
  obtain ⟨⟨hx, hb, hml, hown, hts⟩, hG, hA⟩ := id hC
  have hK := hG.1
  have hS : va_S A s.heap s.heap [] := va_S.rf
  have hf_9 := hts _ (List.mem_cons_of_mem _ A_477)
  have hl : lv_has ls 1 [(0, .ref (k (30 + i)))] := hl
  have hown : s.vm.findClass RJ0 = some m.cls := hown
  unfold q_J0_length_8abf5 at hp
  refine lv_aload_n hx hb dJ0_length_8abf5_0 rfl (lv_at hl 0 rfl) ?_
  refine vk_getf hx hb (hG.2.2.2.2.1.2.2.1 i hi).2.2.1 hS hown hf_9 (fun _ h9 => h9) dJ0_length_8abf5_1 ?_
  refine va_tlen hx hb (hG.2.2.2.2.1.2.2.1 i hi).2.2.2 hS (v := nI (([0, 1] : List Nat).getD i 0)) rfl dJ0_length_8abf5_4 ?_
  refine lv_aload_n hx hb dJ0_length_8abf5_5 rfl (lv_at hl 0 rfl) ?_
  refine fw_ciV (As := []) (rest := [.int (nI (([0, 1] : List Nat).getD i 0))]) hC (c_J0_coder_7d493 l D k ad n i hi hp) (cwV 0 hts (gA_V A_867 A_868 A_869 A_369 A_865) rfl rfl rfl (by decide +kernel) ⟨(Nat.le_of_ble_eq_true rfl), (Nat.le_of_ble_eq_true rfl)⟩) (vk_recv (adK := fun i => k (30 + i)) (i := i) hG.2.2.2.2.1.2.2 hi hS) rfl hl.1 rfl (Nat.le_of_ble_eq_true rfl) dJ0_length_8abf5_6 ⟨(Nat.le_of_ble_eq_true rfl), (Nat.le_of_ble_eq_true rfl)⟩ hP hD hS Jn.same (fun r1 σ2 H locs hP hD hS hp => ?_)
  have hP : va_P D vwCl (WB k ad n (σ2)) H := hP
  have hD : va_D A (WB k ad n (σ2)) := hD
  refine lv_ishr hx hb dJ0_length_8abf5_9 ?_
  exact hret ((nI (([0, 1] : List Nat).getD i 0)) >>> (r1 &&& 31)) (σ2) _ _ _ _ _ _ dJ0_length_8abf5_10 rfl hP hD hS (Nat.le_of_ble_eq_true rfl) (Nat.le_of_ble_eq_true rfl) hp
def q_J0_getBytes_840e7_43 (ad : Nat → Nat) (n : Nat) (i : Nat) (post : Mem → Prop)  (σ : Mem) : Prop := post (σ)
def q_J0_getBytes_840e7 (ad : Nat → Nat) (n : Nat) (i : Nat) (post : Mem → Prop) (p2 : Int32) (p3 : Int32) (σ : Mem) : Prop := (q_J0_coder_7d493 ad n i (fun (r1 : Int32) (σ2 : Mem) => ((r1 ≠ p3 → False) ∧ (r1 = p3 → ((¬ (p2 <<< (p3 &&& 31)) < 0 ∧ (p2 <<< (p3 &&& 31)).toNatClampNeg + (nI (([0, 1] : List Nat).getD i 0)).toNatClampNeg ≤ n) ∧ (∀ σ6 : Mem, σ6 = mup (σ2) 1 (va_cpy (fun j => (([[], [33]] : List (List Int32)).getD i []).getD j 0) ((σ2) 1) 0 (p2 <<< (p3 &&& 31)).toNatClampNeg (nI (([0, 1] : List Nat).getD i 0)).toNatClampNeg) → (q_J0_getBytes_840e7_43 ad n i post) (σ6))))))  (σ))
abbrev rm_J0_getBytes_840e7 : Room := { frames := 1, cells := 0, slots := 0, locals := 80 }
abbrev wq_J0_getBytes_840e7 : List Cond := Cond.code yJ0_getBytes_840e7 cJ0_getBytes_840e7 4 none :: wALL
set_option maxHeartbeats 4000000 in
set_option maxRecDepth 100000 in
theorem c_J0_getBytes_840e7 (l : Launch) (D : va_G) (k ad : Nat → Nat) (n i : Nat) (hi : i < 2) {sz : Nat} {σ : Mem} {p2 : Int32} {p3 : Int32} {post : Mem → Prop} (hp : q_J0_getBytes_840e7 ad n i post p2 p3 σ) : Met l yJ0_getBytes_840e7 wq_J0_getBytes_840e7 rm_J0_getBytes_840e7 (va_Pc [.ref (k (30 + i)), .ref (ad 1), .int p2, .int p3] (Pw D k (WB k ad n (σ)) sz)) (va_Qv post (fun u => Bw D (WB k ad n (σ)) sz (WB k ad n u)) (va_A (WB k ad n (σ)) sz)) 0 0 (va_A (WB k ad n (σ)) sz) := by
  refine fw_v (wf := fun u : Mem => WB k ad n u) (by decide) rfl (Nat.le_of_ble_eq_true rfl) ?_
  intro p e s m args below meth c A Q ls hC hP hD hl hmn hret
  obtain ⟨⟨hx, hb, hml, hown, hts⟩, hG, hA⟩ := id hC
  have hK := hG.1
  have hS : va_S A s.heap s.heap [] := va_S.rf
  have hf_9 := hts _ (List.mem_cons_of_mem _ A_477)
  have hl : lv_has ls 4 [(0, .ref (k (30 + i))), (1, .ref (ad 1)), (2, .int p2), (3, .int p3)] := hl
  have hown : s.vm.findClass RJ0 = some m.cls := hown
  unfold q_J0_getBytes_840e7 at hp
  have B_43 : ∀  (σ : Mem) (H : Heap) (locs : List Loc) (ls : Array Slot), va_P D vwCl (WB k ad n (σ)) H → va_D A (WB k ad n (σ)) → va_S A s.heap H locs → lv_has ls 4 [] → (q_J0_getBytes_840e7_43 ad n i post)  σ → W p l e rm_J0_getBytes_840e7 s m args below meth c H locs 0 0 Q (F0 m 43 ls []) := by
    intro  σ H locs ls hP hD hS hl hp
    unfold q_J0_getBytes_840e7_43 at hp
    exact hret (σ) _ _ _ _ _ _ dJ0_getBytes_840e7_43 hP hD hS (Nat.le_of_ble_eq_true rfl) (Nat.le_of_ble_eq_true rfl) hp
  refine lv_aload_n hx hb dJ0_getBytes_840e7_0 rfl (lv_at hl 0 rfl) ?_
  refine fw_ciV (As := []) (rest := []) hC (c_J0_coder_7d493 l D k ad n i hi hp) (cwV 0 hts (gA_V A_867 A_868 A_869 A_369 A_865) rfl rfl rfl (by decide +kernel) ⟨(Nat.le_of_ble_eq_true rfl), (Nat.le_of_ble_eq_true rfl)⟩) (vk_recv (adK := fun i => k (30 + i)) (i := i) hG.2.2.2.2.1.2.2 hi hS) rfl hl.1 rfl (Nat.le_of_ble_eq_true rfl) dJ0_getBytes_840e7_1 ⟨(Nat.le_of_ble_eq_true rfl), (Nat.le_of_ble_eq_true rfl)⟩ hP hD hS Jn.same (fun r1 σ2 H locs hP hD hS hp => ?_)
  have hP : va_P D vwCl (WB k ad n (σ2)) H := hP
  have hD : va_D A (WB k ad n (σ2)) := hD
  refine lv_iload_n hx hb dJ0_getBytes_840e7_4 rfl (lv_at hl 3 rfl) ?_
  refine lv_icmp_ne (tgt := 28) hx hb dJ0_getBytes_840e7_5 (by decide) (fun c3 => ?_) (fun c3 => ?_)
  · have hp := hp.1 c3
    refine lv_aload_n hx hb dJ0_getBytes_840e7_28 rfl (lv_at hl 0 rfl) ?_
    refine vk_getf hx hb (hG.2.2.2.2.1.2.2.1 i hi).2.2.1 hS hown hf_9 (fun _ h9 => h9) dJ0_getBytes_840e7_29 ?_
    refine lv_iconst (v := 0) hx hb dJ0_getBytes_840e7_32 (by decide) ?_
    refine lv_aload_n hx hb dJ0_getBytes_840e7_33 rfl (lv_at hl 1 rfl) ?_
    refine lv_iload_n hx hb dJ0_getBytes_840e7_34 rfl (lv_at hl 2 rfl) ?_
    refine lv_aload_n hx hb dJ0_getBytes_840e7_35 rfl (lv_at hl 0 rfl) ?_
    refine vk_getf hx hb (hG.2.2.2.2.1.2.2.1 i hi).2.2.1 hS hown hf_9 (fun _ h9 => h9) dJ0_getBytes_840e7_36 ?_
    refine va_tlen hx hb (hG.2.2.2.2.1.2.2.1 i hi).2.2.2 hS (v := nI (([0, 1] : List Nat).getD i 0)) rfl dJ0_getBytes_840e7_39 ?_
    exact hp.elim
  · have hp := hp.2 c3
    refine lv_aload_n hx hb dJ0_getBytes_840e7_8 rfl (lv_at hl 0 rfl) ?_
    refine vk_getf hx hb (hG.2.2.2.2.1.2.2.1 i hi).2.2.1 hS hown hf_9 (fun _ h9 => h9) dJ0_getBytes_840e7_9 ?_
    refine lv_iconst (v := 0) hx hb dJ0_getBytes_840e7_12 (by decide) ?_
    refine lv_aload_n hx hb dJ0_getBytes_840e7_13 rfl (lv_at hl 1 rfl) ?_
    refine lv_iload_n hx hb dJ0_getBytes_840e7_14 rfl (lv_at hl 2 rfl) ?_
    refine lv_iload_n hx hb dJ0_getBytes_840e7_15 rfl (lv_at hl 3 rfl) ?_
    refine lv_ishl hx hb dJ0_getBytes_840e7_16 ?_
    refine lv_aload_n hx hb dJ0_getBytes_840e7_17 rfl (lv_at hl 0 rfl) ?_
    refine vk_getf hx hb (hG.2.2.2.2.1.2.2.1 i hi).2.2.1 hS hown hf_9 (fun _ h9 => h9) dJ0_getBytes_840e7_18 ?_
    refine va_tlen hx hb (hG.2.2.2.2.1.2.2.1 i hi).2.2.2 hS (v := nI (([0, 1] : List Nat).getD i 0)) rfl dJ0_getBytes_840e7_21 ?_
    obtain ⟨⟨h4, h5⟩, hp⟩ := hp
    refine vk_copyt hx hb (by rw [hml]; exact hl.1.symm) hown (hts _ (List.mem_cons_of_mem _ A_876)) (hts _ (List.mem_cons_of_mem _ A_35)) (hts _ (List.mem_cons_of_mem _ A_36)) (hts _ (List.mem_cons_of_mem _ A_37)) hK hP hD hS (hG.2.2.2.2.1.2.2.1 i hi).2.2.2 1 4 rfl rfl (by decide) h4 (k_ln i).1 (k_ln i).2.1 h5 (fun j9 _ => k_fit i _) (Nat.le_of_ble_eq_true rfl) (by decide +kernel) dJ0_getBytes_840e7_22 (fun H locs hP hD hS => ?_)
    obtain ⟨σ6, eσ6⟩ : ∃ z : Mem, z = mup (σ2) 1 (va_cpy (fun j => (([[], [33]] : List (List Int32)).getD i []).getD j 0) ((σ2) 1) 0 (p2 <<< (p3 &&& 31)).toNatClampNeg (nI (([0, 1] : List Nat).getD i 0)).toNatClampNeg) := ⟨_, rfl⟩
    have hp := hp σ6 eσ6
    have hP : va_P D vwCl (WB k ad n (σ6)) H := by rw [eσ6]; exact hP
    have hD : va_D A (WB k ad n (σ6)) := by rw [eσ6]; exact hD
    refine lv_goto (tgt := 43) hx hb dJ0_getBytes_840e7_25 (by decide) ?_
    exact B_43  (σ6) _ _ _  hP hD hS (lv_sub hl [] rfl) hp
def q_J5_inflateIfNeededFor_a7421_21 (ad : Nat → Nat) (n : Nat) (i : Nat) (post : Mem → Prop)  (σ : Mem) : Prop := post (σ)
def q_J5_inflateIfNeededFor_a7421 (ad : Nat → Nat) (n : Nat) (i : Nat) (post : Mem → Prop) (σ : Mem) : Prop := (q_J0_coder_7d493 ad n i (fun (r1 : Int32) (σ2 : Mem) => ((((σ) 0 1) = r1 → (q_J5_inflateIfNeededFor_a7421_21 ad n i post) (σ2)) ∧ (¬ (((σ) 0 1) = r1) → False)))  (σ))
abbrev rm_J5_inflateIfNeededFor_a7421 : Room := { frames := 1, cells := 0, slots := 0, locals := 20 }
abbrev wq_J5_inflateIfNeededFor_a7421 : List Cond := Cond.code yJ5_inflateIfNeededFor_a7421 cJ5_inflateIfNeededFor_a7421 2 none :: wALL
set_option maxHeartbeats 4000000 in
set_option maxRecDepth 100000 in
theorem c_J5_inflateIfNeededFor_a7421 (l : Launch) (D : va_G) (k ad : Nat → Nat) (n i : Nat) (hi : i < 2) {sz : Nat} {σ : Mem} {post : Mem → Prop} (hp : q_J5_inflateIfNeededFor_a7421 ad n i post σ) : Met l yJ5_inflateIfNeededFor_a7421 wq_J5_inflateIfNeededFor_a7421 rm_J5_inflateIfNeededFor_a7421 (va_Pc [.ref (ad 0), .ref (k (30 + i))] (Pw D k (WB k ad n (σ)) sz)) (va_Qv post (fun u => Bw D (WB k ad n (σ)) sz (WB k ad n u)) (va_A (WB k ad n (σ)) sz)) 0 0 (va_A (WB k ad n (σ)) sz) := by
  refine fw_v (wf := fun u : Mem => WB k ad n u) (by decide) rfl (Nat.le_of_ble_eq_true rfl) ?_
  intro p e s m args below meth c A Q ls hC hP hD hl hmn hret
  obtain ⟨⟨hx, hb, hml, hown, hts⟩, hG, hA⟩ := id hC
  have hK := hG.1
  have hS : va_S A s.heap s.heap [] := va_S.rf
  have hf_18 := hts _ (List.mem_cons_of_mem _ A_314)
  have hin_J4 : ∀ w ∈ u_ws RJ4 TJ4 4, w ∈ wq_J5_inflateIfNeededFor_a7421 := fun w h => List.mem_cons_of_mem _ (iU_J4 w h)
  have hf_22 := hts _ (List.mem_cons_of_mem _ A_316)
  have hl : lv_has ls 2 [(0, .ref (ad 0)), (1, .ref (k (30 + i)))] := hl
  have hown : s.vm.findClass RJ5 = some m.cls := hown
  unfold q_J5_inflateIfNeededFor_a7421 at hp
  have B_21 : ∀  (σ : Mem) (H : Heap) (locs : List Loc) (ls : Array Slot), va_P D vwCl (WB k ad n (σ)) H → va_D A (WB k ad n (σ)) → va_S A s.heap H locs → lv_has ls 2 [] → (q_J5_inflateIfNeededFor_a7421_21 ad n i post)  σ → W p l e rm_J5_inflateIfNeededFor_a7421 s m args below meth c H locs 0 0 Q (F0 m 21 ls []) := by
    intro  σ H locs ls hP hD hS hl hp
    unfold q_J5_inflateIfNeededFor_a7421_21 at hp
    exact hret (σ) _ _ _ _ _ _ dJ5_inflateIfNeededFor_a7421_21 hP hD hS (Nat.le_of_ble_eq_true rfl) (Nat.le_of_ble_eq_true rfl) hp
  refine va_gets hx hb hG.2.2.2.2.2.1 hS hown hf_18 (fun _ h9 => h9) dJ5_inflateIfNeededFor_a7421_0 ?_
  refine lv_if_eq (tgt := 21) hx hb dJ5_inflateIfNeededFor_a7421_3 (by decide) (fun c9 => absurd c9 (by decide)) (fun _ => ?_)
  refine lv_aload_n hx hb dJ5_inflateIfNeededFor_a7421_6 rfl (lv_at hl 0 rfl) ?_
  refine va_get (D := D) (ci := 1) (C := RJ4) (T := TJ4) (N := 4) hx hb hts hin_J4 hown hK hP 0 rfl rfl 1 (by decide) hf_22 (fun _ h9 => h9) rfl dJ5_inflateIfNeededFor_a7421_7 ?_
  refine lv_aload_n hx hb dJ5_inflateIfNeededFor_a7421_10 rfl (lv_at hl 1 rfl) ?_
  refine fw_ciV (As := []) (rest := [.int ((σ) 0 1)]) hC (c_J0_coder_7d493 l D k ad n i hi hp) (cwV 0 hts (gA_V A_874 A_868 A_869 A_369 A_865) rfl rfl rfl (by decide +kernel) ⟨(Nat.le_of_ble_eq_true rfl), (Nat.le_of_ble_eq_true rfl)⟩) (vk_recv (adK := fun i => k (30 + i)) (i := i) hG.2.2.2.2.1.2.2 hi hS) rfl hl.1 rfl (Nat.le_of_ble_eq_true rfl) dJ5_inflateIfNeededFor_a7421_11 ⟨(Nat.le_of_ble_eq_true rfl), (Nat.le_of_ble_eq_true rfl)⟩ hP hD hS Jn.same (fun r1 σ2 H locs hP hD hS hp => ?_)
  have hP : va_P D vwCl (WB k ad n (σ2)) H := hP
  have hD : va_D A (WB k ad n (σ2)) := hD
  refine lv_icmp_eq (tgt := 21) hx hb dJ5_inflateIfNeededFor_a7421_14 (by decide) (fun c3 => ?_) (fun c3 => ?_)
  · have hp := hp.1 c3
    exact B_21  (σ2) _ _ _  hP hD hS (lv_sub hl [] rfl) hp
  · have hp := hp.2 c3
    refine lv_aload_n hx hb dJ5_inflateIfNeededFor_a7421_17 rfl (lv_at hl 0 rfl) ?_
    exact hp.elim
def q_J5_putStringAt_47b60 (ad : Nat → Nat) (n : Nat) (i : Nat) (post : Mem → Prop) (p1 : Int32) (σ : Mem) : Prop := (q_J5_inflateIfNeededFor_a7421 ad n i (fun (σ2 : Mem) => (q_J0_getBytes_840e7 ad n i (fun (σ4 : Mem) => post (σ4)) p1 ((σ2) 0 1) (σ2))) (σ))
abbrev rm_J5_putStringAt_47b60 : Room := { frames := 2, cells := 0, slots := 0, locals := 103 }
abbrev wq_J5_putStringAt_47b60 : List Cond := Cond.code yJ5_putStringAt_47b60 cJ5_putStringAt_47b60 3 none :: wALL
set_option maxHeartbeats 4000000 in
set_option maxRecDepth 100000 in
theorem c_J5_putStringAt_47b60 (l : Launch) (D : va_G) (k ad : Nat → Nat) (n i : Nat) (hi : i < 2) {sz : Nat} {σ : Mem} {p1 : Int32} {post : Mem → Prop} (hp : q_J5_putStringAt_47b60 ad n i post p1 σ) : Met l yJ5_putStringAt_47b60 wq_J5_putStringAt_47b60 rm_J5_putStringAt_47b60 (va_Pc [.ref (ad 0), .int p1, .ref (k (30 + i))] (Pw D k (WB k ad n (σ)) sz)) (va_Qv post (fun u => Bw D (WB k ad n (σ)) sz (WB k ad n u)) (va_A (WB k ad n (σ)) sz)) 0 0 (va_A (WB k ad n (σ)) sz) := by
  refine fw_v (wf := fun u : Mem => WB k ad n u) (by decide) rfl (Nat.le_of_ble_eq_true rfl) ?_
  intro p e s m args below meth c A Q ls hC hP hD hl hmn hret
  obtain ⟨⟨hx, hb, hml, hown, hts⟩, hG, hA⟩ := id hC
  have hK := hG.1
  have hS : va_S A s.heap s.heap [] := va_S.rf
  have hin_J4 : ∀ w ∈ u_ws RJ4 TJ4 4, w ∈ wq_J5_putStringAt_47b60 := fun w h => List.mem_cons_of_mem _ (iU_J4 w h)
  have hf_15 := hts _ (List.mem_cons_of_mem _ A_315)
  have hf_22 := hts _ (List.mem_cons_of_mem _ A_316)
  have hl : lv_has ls 3 [(0, .ref (ad 0)), (1, .int p1), (2, .ref (k (30 + i)))] := hl
  have hown : s.vm.findClass RJ5 = some m.cls := hown
  unfold q_J5_putStringAt_47b60 at hp
  refine lv_aload_n hx hb dJ5_putStringAt_47b60_0 rfl (lv_at hl 0 rfl) ?_
  refine lv_aload_n hx hb dJ5_putStringAt_47b60_1 rfl (lv_at hl 2 rfl) ?_
  refine fw_cvU (As := [.ref (k (30 + i))]) (rest := []) hC (c_J5_inflateIfNeededFor_a7421 l D k ad n i hi hp) (va_cwU 1 hts (gA_U (x := ⟨"java/lang/AbstractStringBuilder", "inflateIfNeededFor", "(Ljava/lang/String;)V"⟩) (y := yJ5_inflateIfNeededFor_a7421) (owner := "java/lang/AbstractStringBuilder") A_879 A_880 A_881 A_882 A_322 A_875) rfl rfl rfl rfl ⟨by decide, by decide, by decide +kernel⟩ ⟨Nat.le_of_ble_eq_true rfl, Nat.le_of_ble_eq_true rfl⟩) (va_recv hK hP (ci := 1) (q0 := 0) rfl rfl) rfl hl.1 rfl (Nat.le_of_ble_eq_true rfl) dJ5_putStringAt_47b60_2 ⟨Nat.le_of_ble_eq_true rfl, Nat.le_of_ble_eq_true rfl⟩ hP hD hS Jn.same (fun σ2 H locs hP hD hS hp => ?_)
  have hP : va_P D vwCl (WB k ad n (σ2)) H := hP
  have hD : va_D A (WB k ad n (σ2)) := hD
  refine lv_aload_n hx hb dJ5_putStringAt_47b60_5 rfl (lv_at hl 2 rfl) ?_
  refine lv_aload_n hx hb dJ5_putStringAt_47b60_6 rfl (lv_at hl 0 rfl) ?_
  refine va_get (D := D) (ci := 1) (C := RJ4) (T := TJ4) (N := 4) hx hb hts hin_J4 hown hK hP 0 rfl rfl 0 (by decide) hf_15 (fun _ h9 => h9) rfl dJ5_putStringAt_47b60_7 ?_
  refine lv_iload_n hx hb dJ5_putStringAt_47b60_10 rfl (lv_at hl 1 rfl) ?_
  refine lv_aload_n hx hb dJ5_putStringAt_47b60_11 rfl (lv_at hl 0 rfl) ?_
  refine va_get (D := D) (ci := 1) (C := RJ4) (T := TJ4) (N := 4) hx hb hts hin_J4 hown hK hP 0 rfl rfl 1 (by decide) hf_22 (fun _ h9 => h9) rfl dJ5_putStringAt_47b60_12 ?_
  refine fw_cvV (As := [.ref (ad 1), .int p1, .int ((σ2) 0 1)]) (rest := []) hC (c_J0_getBytes_840e7 l D k ad n i hi hp) (cwV 3 hts (gA_V A_883 A_884 A_885 A_369 A_878) rfl rfl rfl (by decide +kernel) ⟨(Nat.le_of_ble_eq_true rfl), (Nat.le_of_ble_eq_true rfl)⟩) (vk_recv (adK := fun i => k (30 + i)) (i := i) hG.2.2.2.2.1.2.2 hi hS) rfl hl.1 rfl (Nat.le_of_ble_eq_true rfl) dJ5_putStringAt_47b60_15 ⟨(Nat.le_of_ble_eq_true rfl), (Nat.le_of_ble_eq_true rfl)⟩ hP hD hS Jn.same (fun σ4 H locs hP hD hS hp => ?_)
  have hP : va_P D vwCl (WB k ad n (σ4)) H := hP
  have hD : va_D A (WB k ad n (σ4)) := hD
  exact hret (σ4) _ _ _ _ _ _ dJ5_putStringAt_47b60_18 hP hD hS (Nat.le_of_ble_eq_true rfl) (Nat.le_of_ble_eq_true rfl) hp
def q_J5_append_cf1ce (ad : Nat → Nat) (n : Nat) (i : Nat) (post : Nat → Mem → Prop) (σ : Mem) : Prop := (q_J0_length_8abf5 ad n i (fun (r1 : Int32) (σ2 : Mem) => (q_J5_ensureCapacityInternal_d00df ad n (fun (σ4 : Mem) => (q_J5_putStringAt_47b60 ad n i (fun (σ6 : Mem) => (∀ σ7 : Mem, σ7 = mst (σ6) 0 3 (((σ6) 0 3) + r1) → post (ad 0) (σ7))) ((σ4) 0 3) (σ4))) (((σ2) 0 3) + r1) (σ2)))  (σ))
abbrev rm_J5_append_cf1ce : Room := { frames := 3, cells := 0, slots := 0, locals := 125 }
abbrev wq_J5_append_cf1ce : List Cond := Cond.code yJ5_append_cf1ce cJ5_append_cf1ce 3 (some (.object "java/lang/AbstractStringBuilder")) :: wALL
set_option maxHeartbeats 4000000 in
set_option maxRecDepth 100000 in
theorem c_J5_append_cf1ce (l : Launch) (D : va_G) (k ad : Nat → Nat) (n i : Nat) (hi : i < 2) {sz : Nat} {σ : Mem} {post : Nat → Mem → Prop} (hp : q_J5_append_cf1ce ad n i post σ) : Met l yJ5_append_cf1ce wq_J5_append_cf1ce rm_J5_append_cf1ce (va_Pc [.ref (ad 0), .ref (k (30 + i))] (Pw D k (WB k ad n (σ)) sz)) (va_Qr (fun z : Nat × Mem => post z.1 z.2) (fun z a t => a = z.1 ∧ Bw D (WB k ad n (σ)) sz (WB k ad n z.2) t) (va_A (WB k ad n (σ)) sz)) 0 0 (va_A (WB k ad n (σ)) sz) := by
  refine fw_r (Or.inl ⟨_, rfl⟩) (wf := fun u : Mem => WB k ad n u) (by decide) rfl (Nat.le_of_ble_eq_true rfl) ?_
  intro p e s m args below meth c A Q ls hC hP hD hl hret
  obtain ⟨⟨hx, hb, hml, hown, hts⟩, hG, hA⟩ := id hC
  have hK := hG.1
  have hS : va_S A s.heap s.heap [] := va_S.rf
  have hin_J4 : ∀ w ∈ u_ws RJ4 TJ4 4, w ∈ wq_J5_append_cf1ce := fun w h => List.mem_cons_of_mem _ (iU_J4 w h)
  have hf_79 := hts _ (List.mem_cons_of_mem _ A_382)
  have hl : lv_has ls 3 [(0, .ref (ad 0)), (1, .ref (k (30 + i)))] := hl
  have hown : s.vm.findClass RJ5 = some m.cls := hown
  unfold q_J5_append_cf1ce at hp
  refine lv_aload_n hx hb dJ5_append_cf1ce_0 rfl (lv_at hl 1 rfl) ?_
  refine lv_ifnonnull (tgt := 9) hx hb dJ5_append_cf1ce_1 (by decide) ?_
  refine lv_aload_n hx hb dJ5_append_cf1ce_9 rfl (lv_at hl 1 rfl) ?_
  refine fw_ciV (As := []) (rest := []) hC (c_J0_length_8abf5 l D k ad n i hi hp) (cwV 0 hts (gA_V A_891 A_892 A_893 A_369 A_866) rfl rfl rfl (by decide +kernel) ⟨(Nat.le_of_ble_eq_true rfl), (Nat.le_of_ble_eq_true rfl)⟩) (vk_recv (adK := fun i => k (30 + i)) (i := i) hG.2.2.2.2.1.2.2 hi hS) rfl hl.1 rfl (Nat.le_of_ble_eq_true rfl) dJ5_append_cf1ce_10 ⟨(Nat.le_of_ble_eq_true rfl), (Nat.le_of_ble_eq_true rfl)⟩ hP hD hS Jn.same (fun r1 σ2 H locs hP hD hS hp => ?_)
  have hP : va_P D vwCl (WB k ad n (σ2)) H := hP
  have hD : va_D A (WB k ad n (σ2)) := hD
  refine lv_istore_n (lv' := [(2, .int r1), (0, .ref (ad 0)), (1, .ref (k (30 + i)))]) hx hb dJ5_append_cf1ce_13 rfl hl (by decide) rfl (fun ls hl => ?_)
  refine lv_aload_n hx hb dJ5_append_cf1ce_14 rfl (lv_at hl 1 rfl) ?_
  refine lv_aload_n hx hb dJ5_append_cf1ce_15 rfl (lv_at hl 1 rfl) ?_
  refine va_get (D := D) (ci := 1) (C := RJ4) (T := TJ4) (N := 4) hx hb hts hin_J4 hown hK hP 0 rfl rfl 3 (by decide) hf_79 (fun _ h9 => h9) rfl dJ5_append_cf1ce_16 ?_
  refine lv_iload_n hx hb dJ5_append_cf1ce_19 rfl (lv_at hl 0 rfl) ?_
  refine lv_iadd hx hb dJ5_append_cf1ce_20 ?_
  refine fw_cvU (As := [.int (((σ2) 0 3) + r1)]) (rest := []) hC (c_J5_ensureCapacityInternal_d00df l D k ad n hp) (va_cwU 1 hts (gA_U (x := ⟨"java/lang/AbstractStringBuilder", "ensureCapacityInternal", "(I)V"⟩) (y := yJ5_ensureCapacityInternal_d00df) (owner := "java/lang/AbstractStringBuilder") A_401 A_402 A_403 A_404 A_322 A_354) rfl rfl rfl rfl ⟨by decide, by decide, by decide +kernel⟩ ⟨Nat.le_of_ble_eq_true rfl, Nat.le_of_ble_eq_true rfl⟩) (va_recv hK hP (ci := 1) (q0 := 0) rfl rfl) rfl hl.1 rfl (Nat.le_of_ble_eq_true rfl) dJ5_append_cf1ce_21 ⟨Nat.le_of_ble_eq_true rfl, Nat.le_of_ble_eq_true rfl⟩ hP hD hS Jn.same (fun σ4 H locs hP hD hS hp => ?_)
  have hP : va_P D vwCl (WB k ad n (σ4)) H := hP
  have hD : va_D A (WB k ad n (σ4)) := hD
  refine lv_aload_n hx hb dJ5_append_cf1ce_24 rfl (lv_at hl 1 rfl) ?_
  refine lv_aload_n hx hb dJ5_append_cf1ce_25 rfl (lv_at hl 1 rfl) ?_
  refine va_get (D := D) (ci := 1) (C := RJ4) (T := TJ4) (N := 4) hx hb hts hin_J4 hown hK hP 0 rfl rfl 3 (by decide) hf_79 (fun _ h9 => h9) rfl dJ5_append_cf1ce_26 ?_
  refine lv_aload_n hx hb dJ5_append_cf1ce_29 rfl (lv_at hl 2 rfl) ?_
  refine fw_cvU (As := [.int ((σ4) 0 3), .ref (k (30 + i))]) (rest := []) hC (c_J5_putStringAt_47b60 l D k ad n i hi hp) (va_cwU 2 hts (gA_U (x := ⟨"java/lang/AbstractStringBuilder", "putStringAt", "(ILjava/lang/String;)V"⟩) (y := yJ5_putStringAt_47b60) (owner := "java/lang/AbstractStringBuilder") A_894 A_895 A_896 A_897 A_322 A_886) rfl rfl rfl rfl ⟨by decide, by decide, by decide +kernel⟩ ⟨Nat.le_of_ble_eq_true rfl, Nat.le_of_ble_eq_true rfl⟩) (va_recv hK hP (ci := 1) (q0 := 0) rfl rfl) rfl hl.1 rfl (Nat.le_of_ble_eq_true rfl) dJ5_append_cf1ce_30 ⟨Nat.le_of_ble_eq_true rfl, Nat.le_of_ble_eq_true rfl⟩ hP hD hS Jn.same (fun σ6 H locs hP hD hS hp => ?_)
  have hP : va_P D vwCl (WB k ad n (σ6)) H := hP
  have hD : va_D A (WB k ad n (σ6)) := hD
  refine lv_aload_n hx hb dJ5_append_cf1ce_33 rfl (lv_at hl 1 rfl) ?_
  refine lv_dup hx hb dJ5_append_cf1ce_34 rfl ?_
  refine va_get (D := D) (ci := 1) (C := RJ4) (T := TJ4) (N := 4) hx hb hts hin_J4 hown hK hP 0 rfl rfl 3 (by decide) hf_79 (fun _ h9 => h9) rfl dJ5_append_cf1ce_35 ?_
  refine lv_iload_n hx hb dJ5_append_cf1ce_38 rfl (lv_at hl 0 rfl) ?_
  refine lv_iadd hx hb dJ5_append_cf1ce_39 ?_
  refine va_put (D := D) (ci := 1) (v := .int (((σ6) 0 3) + r1)) (ty := .int) (C := RJ4) (T := TJ4) (N := 4) hx hb hts hin_J4 tyJ4 tyJ4_ok nmJ4 hown hK hP hD hS 0 rfl rfl 3 (by decide) hf_79 (fun _ h9 => h9) rfl (by decide +kernel) rfl rfl (Nat.le_of_ble_eq_true rfl) dJ5_append_cf1ce_40 (fun H locs hP hD hS => ?_)
  obtain ⟨σ7, eσ7⟩ : ∃ z : Mem, z = mst (σ6) 0 3 (((σ6) 0 3) + r1) := ⟨_, rfl⟩
  have hp := hp σ7 eσ7
  have hP : va_P D vwCl (WB k ad n (σ7)) H := by rw [eσ7]; exact hP
  have hD : va_D A (WB k ad n (σ7)) := by rw [eσ7]; exact hD
  refine lv_aload_n hx hb dJ5_append_cf1ce_43 rfl (lv_at hl 1 rfl) ?_
  exact hret (ad 0) (σ7) _ _ _ _ _ _ dJ5_append_cf1ce_44 hP hD hS (Nat.le_of_ble_eq_true rfl) (Nat.le_of_ble_eq_true rfl) hp
def q_J4_append_15ec4 (ad : Nat → Nat) (n : Nat) (i : Nat) (post : Nat → Mem → Prop) (σ : Mem) : Prop := (q_J5_append_cf1ce ad n i (fun (r1 : Nat) (σ2 : Mem) => post (ad 0) (σ2)) (σ))
abbrev rm_J4_append_15ec4 : Room := { frames := 4, cells := 0, slots := 0, locals := 147 }
abbrev wq_J4_append_15ec4 : List Cond := Cond.code yJ4_append_15ec4 cJ4_append_15ec4 2 (some (.object "java/lang/StringBuilder")) :: wALL
set_option maxHeartbeats 4000000 in
set_option maxRecDepth 100000 in
theorem c_J4_append_15ec4 (l : Launch) (D : va_G) (k ad : Nat → Nat) (n i : Nat) (hi : i < 2) {sz : Nat} {σ : Mem} {post : Nat → Mem → Prop} (hp : q_J4_append_15ec4 ad n i post σ) : Met l yJ4_append_15ec4 wq_J4_append_15ec4 rm_J4_append_15ec4 (va_Pc [.ref (ad 0), .ref (k (30 + i))] (Pw D k (WB k ad n (σ)) sz)) (va_Qr (fun z : Nat × Mem => post z.1 z.2) (fun z a t => a = z.1 ∧ Bw D (WB k ad n (σ)) sz (WB k ad n z.2) t) (va_A (WB k ad n (σ)) sz)) 0 0 (va_A (WB k ad n (σ)) sz) := by
  refine fw_r (Or.inl ⟨_, rfl⟩) (wf := fun u : Mem => WB k ad n u) (by decide) rfl (Nat.le_of_ble_eq_true rfl) ?_
  intro p e s m args below meth c A Q ls hC hP hD hl hret
  obtain ⟨⟨hx, hb, hml, hown, hts⟩, hG, hA⟩ := id hC
  have hK := hG.1
  have hS : va_S A s.heap s.heap [] := va_S.rf
  have hl : lv_has ls 2 [(0, .ref (ad 0)), (1, .ref (k (30 + i)))] := hl
  have hown : s.vm.findClass RJ4 = some m.cls := hown
  unfold q_J4_append_15ec4 at hp
  refine lv_aload_n hx hb dJ4_append_15ec4_0 rfl (lv_at hl 0 rfl) ?_
  refine lv_aload_n hx hb dJ4_append_15ec4_1 rfl (lv_at hl 1 rfl) ?_
  refine fw_crSU (As := [.ref (k (30 + i))]) (rest := []) hC (c_J5_append_cf1ce l D k ad n i hi hp) (hK.1 1 _ rfl).2 (va_cwSU 1 hts (gA_SU A_899 A_900 A_416 A_901 A_322 A_898) rfl rfl rfl ⟨by decide, by decide +kernel⟩ ⟨Nat.le_of_ble_eq_true rfl, Nat.le_of_ble_eq_true rfl⟩) (va_recv hK hP (ci := 1) (q0 := 0) rfl rfl) rfl hl.1 rfl (Nat.le_of_ble_eq_true rfl) dJ4_append_15ec4_2 ⟨Nat.le_of_ble_eq_true rfl, Nat.le_of_ble_eq_true rfl⟩ hP hD hS Jn.same (fun r1 σ2 H locs hP hD hS hp => ?_)
  have hP : va_P D vwCl (WB k ad n (σ2)) H := hP
  have hD : va_D A (WB k ad n (σ2)) := hD
  refine lv_pop hx hb dJ4_append_15ec4_5 rfl ?_
  refine lv_aload_n hx hb dJ4_append_15ec4_6 rfl (lv_at hl 0 rfl) ?_
  exact hret (ad 0) (σ2) _ _ _ _ _ _ dJ4_append_15ec4_7 hP hD hS (Nat.le_of_ble_eq_true rfl) (Nat.le_of_ble_eq_true rfl) hp
def q_J4_append_cf1ce (ad : Nat → Nat) (n : Nat) (i : Nat) (post : Nat → Mem → Prop) (σ : Mem) : Prop := (q_J4_append_15ec4 ad n i (fun (r1 : Nat) (σ2 : Mem) => post r1 (σ2)) (σ))
abbrev rm_J4_append_cf1ce : Room := { frames := 5, cells := 0, slots := 0, locals := 168 }
abbrev wq_J4_append_cf1ce : List Cond := Cond.code yJ4_append_cf1ce cJ4_append_cf1ce 2 (some (.object "java/lang/AbstractStringBuilder")) :: wALL
set_option maxHeartbeats 4000000 in
set_option maxRecDepth 100000 in
theorem c_J4_append_cf1ce (l : Launch) (D : va_G) (k ad : Nat → Nat) (n i : Nat) (hi : i < 2) {sz : Nat} {σ : Mem} {post : Nat → Mem → Prop} (hp : q_J4_append_cf1ce ad n i post σ) : Met l yJ4_append_cf1ce wq_J4_append_cf1ce rm_J4_append_cf1ce (va_Pc [.ref (ad 0), .ref (k (30 + i))] (Pw D k (WB k ad n (σ)) sz)) (va_Qr (fun z : Nat × Mem => post z.1 z.2) (fun z a t => a = z.1 ∧ Bw D (WB k ad n (σ)) sz (WB k ad n z.2) t) (va_A (WB k ad n (σ)) sz)) 0 0 (va_A (WB k ad n (σ)) sz) := by
  refine fw_r (Or.inl ⟨_, rfl⟩) (wf := fun u : Mem => WB k ad n u) (by decide) rfl (Nat.le_of_ble_eq_true rfl) ?_
  intro p e s m args below meth c A Q ls hC hP hD hl hret
  obtain ⟨⟨hx, hb, hml, hown, hts⟩, hG, hA⟩ := id hC
  have hK := hG.1
  have hS : va_S A s.heap s.heap [] := va_S.rf
  have hl : lv_has ls 2 [(0, .ref (ad 0)), (1, .ref (k (30 + i)))] := hl
  have hown : s.vm.findClass RJ4 = some m.cls := hown
  unfold q_J4_append_cf1ce at hp
  refine lv_aload_n hx hb dJ4_append_cf1ce_0 rfl (lv_at hl 0 rfl) ?_
  refine lv_aload_n hx hb dJ4_append_cf1ce_1 rfl (lv_at hl 1 rfl) ?_
  refine fw_crV (As := [.ref (k (30 + i))]) (rest := []) hC (c_J4_append_15ec4 l D k ad n i hi hp) (cwV 1 hts (gA_V A_903 A_904 A_905 A_458 A_902) rfl rfl rfl (by decide +kernel) ⟨Nat.le_of_ble_eq_true rfl, Nat.le_of_ble_eq_true rfl⟩) (va_recv hK hP (ci := 1) (q0 := 0) rfl rfl) rfl hl.1 rfl (Nat.le_of_ble_eq_true rfl) dJ4_append_cf1ce_2 ⟨Nat.le_of_ble_eq_true rfl, Nat.le_of_ble_eq_true rfl⟩ hP hD hS Jn.same (fun r1 σ2 H locs hP hD hS hp => ?_)
  have hP : va_P D vwCl (WB k ad n (σ2)) H := hP
  have hD : va_D A (WB k ad n (σ2)) := hD
  exact hret r1 (σ2) _ _ _ _ _ _ dJ4_append_cf1ce_5 hP hD hS (Nat.le_of_ble_eq_true rfl) (Nat.le_of_ble_eq_true rfl) hp
