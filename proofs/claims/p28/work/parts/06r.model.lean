def q_X8_field (n : Nat) (c : Nat) (post : Int32 → Mem → Prop) (p1 : Int32) (σ : Mem) : Prop := (∀ σ1 : Mem, σ1 = mst (σ) 0 0 0 → (q_X8_is (fun (r2 : Int32) (σ3 : Mem) => ((r2 ≠ 0 → ((((σ1) 0 3) ≠ 5 → (vp_in ((σ1) 0 3) 5 ∧ (∀ σ7 : Mem, σ7 = mst (σ1) 1 (((σ1) 0 3).toNatClampNeg) p1 → (vp_in ((σ7) 0 3) 5 ∧ (∀ σ9 : Mem, σ9 = mst (σ7) 2 (((σ7) 0 3).toNatClampNeg) 1 → (∀ σ10 : Mem, σ10 = mst (σ9) 0 3 (((σ9) 0 3) + 1) → post (((σ10) 0 3) - 1) (σ10))))))) ∧ (((σ1) 0 3) = 5 → (q_X8_refuse n c (fun (r11 : Int32) (σ12 : Mem) => post r11 (σ12)) 2 (σ1))))) ∧ (r2 = 0 → (q_X8_refuse n c (fun (r13 : Int32) (σ14 : Mem) => post r13 (σ14)) 1 (σ1))))) p1 0 3 (σ1)))
abbrev rm_X8_field : Room := { frames := 1, cells := 0, slots := 0, locals := 22 }
abbrev wq_X8_field : List Cond := Cond.code yX8_field cX8_field 2 (some .int) :: wALL
set_option maxHeartbeats 4000000 in
set_option maxRecDepth 100000 in
theorem c_X8_field (l : Launch) (D : va_G) (k ad g : Nat → Nat) (hg : gok g) {sz : Nat} {σ : Mem} {p1 : Int32} {post : Int32 → Mem → Prop} (hp : q_X8_field (g 0) (g 2) post p1 σ) : Met l yX8_field wq_X8_field rm_X8_field (va_Pc [.ref (ad 0), .int p1] (Pw D k (WM k ad g (σ)) sz)) (va_Qi post (fun u => Bw D (WM k ad g (σ)) sz (WM k ad g u)) (va_A (WM k ad g (σ)) sz)) 0 0 (va_A (WM k ad g (σ)) sz) := by
  refine fw_i (wf := fun u : Mem => WM k ad g u) (by decide) rfl (Nat.le_of_ble_eq_true rfl) ?_
  intro p e s m args below meth c A Q ls hC hP hD hl hret
  obtain ⟨⟨hx, hb, hml, hown, hts⟩, hG, hA⟩ := id hC
  have hK := hG.1
  have hS : va_S A s.heap s.heap [] := va_S.rf
  have hin_X8 : ∀ w ∈ u_ws RX8 TX8 15, w ∈ wq_X8_field := fun w h => List.mem_cons_of_mem _ (iU_X8 w h)
  have hf_41 := hts _ (List.mem_cons_of_mem _ A_595)
  have hf_45 := hts _ (List.mem_cons_of_mem _ A_598)
  have hf_9 := hts _ (List.mem_cons_of_mem _ A_579)
  have hf_13 := hts _ (List.mem_cons_of_mem _ A_580)
  have hl : lv_has ls 2 [(0, .ref (ad 0)), (1, .int p1)] := hl
  have hown : s.vm.findClass RX8 = some m.cls := hown
  unfold q_X8_field at hp
  refine lv_aload_n hx hb dX8_field_0 rfl (lv_at hl 0 rfl) ?_
  refine lv_iconst (v := 0) hx hb dX8_field_1 (by decide) ?_
  refine va_put (D := D) (ci := 12) (v := .int 0) (ty := .int) (C := RX8) (T := TX8) (N := 15) hx hb hts hin_X8 tyX8 tyX8_ok nmX8 hown hK hP hD hS 0 rfl rfl 0 (by decide) hf_41 (fun _ h9 => h9) rfl (by decide +kernel) rfl rfl (Nat.le_of_ble_eq_true rfl) dX8_field_2 (fun H locs hP hD hS => ?_)
  obtain ⟨σ1, eσ1⟩ : ∃ z : Mem, z = mst (σ) 0 0 0 := ⟨_, rfl⟩
  have hp := hp σ1 eσ1
  have hP : va_P D vwCl (WM k ad g (σ1)) H := by rw [eσ1, WM_s (by decide)]; exact hP
  have hD : va_D A (WM k ad g (σ1)) := by rw [eσ1, WM_s (by decide)]; exact hD
  refine lv_iload_n hx hb dX8_field_5 rfl (lv_at hl 1 rfl) ?_
  refine lv_iconst (v := 0) hx hb dX8_field_6 (by decide) ?_
  refine lv_iconst (v := 3) hx hb dX8_field_7 (by decide) ?_
  refine fw_ciS (As := [.int p1, .int 0, .int 3]) (rest := []) hC (c_X8_is l D k hp) (va_cwS 3 hts (gA_S A_599 A_600 A_601 A_596) rfl rfl rfl (by decide +kernel) ⟨Nat.le_of_ble_eq_true rfl, Nat.le_of_ble_eq_true rfl⟩) rfl hl.1 rfl (Nat.le_of_ble_eq_true rfl) dX8_field_8 ⟨Nat.le_of_ble_eq_true rfl, Nat.le_of_ble_eq_true rfl⟩ P_nil D_nil hS (Jn.pure (w0 := fun _ : Mem => []) hP hD) (fun r2 σ3 H locs hP hD hS hp => ?_)
  have hP : va_P D vwCl (WM k ad g (σ1)) H := hP
  have hD : va_D A (WM k ad g (σ1)) := hD
  refine lv_if_ne (tgt := 20) hx hb dX8_field_11 (by decide) (fun c4 => ?_) (fun c4 => ?_)
  · have hp := hp.1 c4
    refine lv_aload_n hx hb dX8_field_20 rfl (lv_at hl 0 rfl) ?_
    refine va_get (D := D) (ci := 12) (C := RX8) (T := TX8) (N := 15) hx hb hts hin_X8 hown hK hP 0 rfl rfl 3 (by decide) hf_45 (fun _ h9 => h9) rfl dX8_field_21 ?_
    refine lv_iconst (v := 5) hx hb dX8_field_24 (by decide) ?_
    refine lv_icmp_ne (tgt := 34) hx hb dX8_field_25 (by decide) (fun c5 => ?_) (fun c5 => ?_)
    · have hp := hp.1 c5
      refine lv_aload_n hx hb dX8_field_34 rfl (lv_at hl 0 rfl) ?_
      refine va_get (D := D) (ci := 12) (C := RX8) (T := TX8) (N := 15) hx hb hts hin_X8 hown hK hP 0 rfl rfl 1 (by decide) hf_9 (fun _ h9 => h9) rfl dX8_field_35 ?_
      refine lv_aload_n hx hb dX8_field_38 rfl (lv_at hl 0 rfl) ?_
      refine va_get (D := D) (ci := 12) (C := RX8) (T := TX8) (N := 15) hx hb hts hin_X8 hown hK hP 0 rfl rfl 3 (by decide) hf_45 (fun _ h9 => h9) rfl dX8_field_39 ?_
      refine lv_iload_n hx hb dX8_field_42 rfl (lv_at hl 1 rfl) ?_
      obtain ⟨h6, hp⟩ := hp
      refine va_iast hx hb hK hP hD hS 1 0 rfl rfl h6 dX8_field_43 (fun H locs hP hD hS => ?_)
      obtain ⟨σ7, eσ7⟩ : ∃ z : Mem, z = mst (σ1) 1 (((σ1) 0 3).toNatClampNeg) p1 := ⟨_, rfl⟩
      have hp := hp σ7 eσ7
      have hP : va_P D vwCl (WM k ad g (σ7)) H := by rw [eσ7, WM_s (by decide)]; exact hP
      have hD : va_D A (WM k ad g (σ7)) := by rw [eσ7, WM_s (by decide)]; exact hD
      refine lv_aload_n hx hb dX8_field_44 rfl (lv_at hl 0 rfl) ?_
      refine va_get (D := D) (ci := 12) (C := RX8) (T := TX8) (N := 15) hx hb hts hin_X8 hown hK hP 0 rfl rfl 2 (by decide) hf_13 (fun _ h9 => h9) rfl dX8_field_45 ?_
      refine lv_aload_n hx hb dX8_field_48 rfl (lv_at hl 0 rfl) ?_
      refine va_get (D := D) (ci := 12) (C := RX8) (T := TX8) (N := 15) hx hb hts hin_X8 hown hK hP 0 rfl rfl 3 (by decide) hf_45 (fun _ h9 => h9) rfl dX8_field_49 ?_
      refine lv_iconst (v := 1) hx hb dX8_field_52 (by decide) ?_
      obtain ⟨h8, hp⟩ := hp
      refine va_iast hx hb hK hP hD hS 2 0 rfl rfl h8 dX8_field_53 (fun H locs hP hD hS => ?_)
      obtain ⟨σ9, eσ9⟩ : ∃ z : Mem, z = mst (σ7) 2 (((σ7) 0 3).toNatClampNeg) 1 := ⟨_, rfl⟩
      have hp := hp σ9 eσ9
      have hP : va_P D vwCl (WM k ad g (σ9)) H := by rw [eσ9, WM_s (by decide)]; exact hP
      have hD : va_D A (WM k ad g (σ9)) := by rw [eσ9, WM_s (by decide)]; exact hD
      refine lv_aload_n hx hb dX8_field_54 rfl (lv_at hl 0 rfl) ?_
      refine lv_dup hx hb dX8_field_55 rfl ?_
      refine va_get (D := D) (ci := 12) (C := RX8) (T := TX8) (N := 15) hx hb hts hin_X8 hown hK hP 0 rfl rfl 3 (by decide) hf_45 (fun _ h9 => h9) rfl dX8_field_56 ?_
      refine lv_iconst (v := 1) hx hb dX8_field_59 (by decide) ?_
      refine lv_iadd hx hb dX8_field_60 ?_
      refine va_put (D := D) (ci := 12) (v := .int (((σ9) 0 3) + 1)) (ty := .int) (C := RX8) (T := TX8) (N := 15) hx hb hts hin_X8 tyX8 tyX8_ok nmX8 hown hK hP hD hS 0 rfl rfl 3 (by decide) hf_45 (fun _ h9 => h9) rfl (by decide +kernel) rfl rfl (Nat.le_of_ble_eq_true rfl) dX8_field_61 (fun H locs hP hD hS => ?_)
      obtain ⟨σ10, eσ10⟩ : ∃ z : Mem, z = mst (σ9) 0 3 (((σ9) 0 3) + 1) := ⟨_, rfl⟩
      have hp := hp σ10 eσ10
      have hP : va_P D vwCl (WM k ad g (σ10)) H := by rw [eσ10, WM_s (by decide)]; exact hP
      have hD : va_D A (WM k ad g (σ10)) := by rw [eσ10, WM_s (by decide)]; exact hD
      refine lv_aload_n hx hb dX8_field_64 rfl (lv_at hl 0 rfl) ?_
      refine va_get (D := D) (ci := 12) (C := RX8) (T := TX8) (N := 15) hx hb hts hin_X8 hown hK hP 0 rfl rfl 3 (by decide) hf_45 (fun _ h9 => h9) rfl dX8_field_65 ?_
      refine lv_iconst (v := 1) hx hb dX8_field_68 (by decide) ?_
      refine lv_isub hx hb dX8_field_69 ?_
      exact hret (((σ10) 0 3) - 1) (σ10) _ _ _ _ _ _ dX8_field_70 rfl hP hD hS (Nat.le_of_ble_eq_true rfl) (Nat.le_of_ble_eq_true rfl) hp
    · have hp := hp.2 c5
      refine lv_aload_n hx hb dX8_field_28 rfl (lv_at hl 0 rfl) ?_
      refine lv_iconst (v := 2) hx hb dX8_field_29 (by decide) ?_
      refine fw_ciV (As := [.int 2]) (rest := []) hC (c_X8_refuse l D k ad g hg hp) (cwV 1 hts (gA_V A_629 A_630 A_631 A_601 A_594) rfl rfl rfl (by decide +kernel) ⟨Nat.le_of_ble_eq_true rfl, Nat.le_of_ble_eq_true rfl⟩) (va_recv hK hP (ci := 12) (q0 := 0) rfl rfl) rfl hl.1 rfl (Nat.le_of_ble_eq_true rfl) dX8_field_30 ⟨Nat.le_of_ble_eq_true rfl, Nat.le_of_ble_eq_true rfl⟩ hP hD hS Jn.same (fun r11 σ12 H locs hP hD hS hp => ?_)
      have hP : va_P D vwCl (WM k ad g (σ12)) H := hP
      have hD : va_D A (WM k ad g (σ12)) := hD
      exact hret r11 (σ12) _ _ _ _ _ _ dX8_field_33 rfl hP hD hS (Nat.le_of_ble_eq_true rfl) (Nat.le_of_ble_eq_true rfl) hp
  · have hp := hp.2 c4
    refine lv_aload_n hx hb dX8_field_14 rfl (lv_at hl 0 rfl) ?_
    refine lv_iconst (v := 1) hx hb dX8_field_15 (by decide) ?_
    refine fw_ciV (As := [.int 1]) (rest := []) hC (c_X8_refuse l D k ad g hg hp) (cwV 1 hts (gA_V A_629 A_630 A_631 A_601 A_594) rfl rfl rfl (by decide +kernel) ⟨Nat.le_of_ble_eq_true rfl, Nat.le_of_ble_eq_true rfl⟩) (va_recv hK hP (ci := 12) (q0 := 0) rfl rfl) rfl hl.1 rfl (Nat.le_of_ble_eq_true rfl) dX8_field_16 ⟨Nat.le_of_ble_eq_true rfl, Nat.le_of_ble_eq_true rfl⟩ hP hD hS Jn.same (fun r13 σ14 H locs hP hD hS hp => ?_)
    have hP : va_P D vwCl (WM k ad g (σ14)) H := hP
    have hD : va_D A (WM k ad g (σ14)) := hD
    exact hret r13 (σ14) _ _ _ _ _ _ dX8_field_19 rfl hP hD hS (Nat.le_of_ble_eq_true rfl) (Nat.le_of_ble_eq_true rfl) hp
def q_X8_approve_14 (n : Nat) (c : Nat) (post : Int32 → Mem → Prop)  (s0 : Int32) (x1 : Int32) (x2 : Int32) (σ : Mem) : Prop := (∀ σ1001 : Mem, σ1001 = mst (σ) 0 0 s0 → ((((σ1001) 0 0) ≤ 0 → (∃ j1003 : Nat, (j1003 < n ∧ x1 = nI j1003) ∧ (bz x2 ∧ (∀ σ1005 : Mem, σ1005 = mst (σ1001) (100 + j1003) 5 x2 → (∃ j1006 : Nat, (j1006 < n ∧ x1 = nI j1006) ∧ (q_X8_counts n c j1006 (fun (r1007 : Int32) (σ1008 : Mem) => (bz r1007 ∧ post r1007 (σ1008))) (σ1005))))))) ∧ (¬ (((σ1001) 0 0) ≤ 0) → post 0 (σ1001))))
def q_X8_approve (n : Nat) (c : Nat) (post : Int32 → Mem → Prop) (p1 : Int32) (p2 : Int32) (σ : Mem) : Prop := (q_X8_isLine n c (fun (r1 : Int32) (σ2 : Mem) => ((r1 = 0 → (q_X8_approve_14 n c post) 1 p1 p2 (σ2)) ∧ (¬ (r1 = 0) → (q_X8_approve_14 n c post) 0 p1 p2 (σ2)))) p1 (σ))
abbrev rm_X8_approve : Room := { frames := 4, cells := 0, slots := 0, locals := 260 }
abbrev wq_X8_approve : List Cond := Cond.code yX8_approve cX8_approve 3 (some .boolean) :: wALL
set_option maxHeartbeats 4000000 in
set_option maxRecDepth 100000 in
theorem c_X8_approve (l : Launch) (D : va_G) (k ad g : Nat → Nat) (hg : gok g) {sz : Nat} {σ : Mem} {p1 : Int32} {p2 : Int32} {post : Int32 → Mem → Prop} (hp : q_X8_approve (g 0) (g 2) post p1 p2 σ) : Met l yX8_approve wq_X8_approve rm_X8_approve (va_Pc [.ref (ad 0), .int p1, .int p2] (Pw D k (WM k ad g (σ)) sz)) (va_Qi post (fun u => Bw D (WM k ad g (σ)) sz (WM k ad g u)) (va_A (WM k ad g (σ)) sz)) 0 0 (va_A (WM k ad g (σ)) sz) := by
  refine fw_i (wf := fun u : Mem => WM k ad g u) (by decide) rfl (Nat.le_of_ble_eq_true rfl) ?_
  intro p e s m args below meth c A Q ls hC hP hD hl hret
  obtain ⟨⟨hx, hb, hml, hown, hts⟩, hG, hA⟩ := id hC
  have hK := hG.1
  have hS : va_S A s.heap s.heap [] := va_S.rf
  have hin_X8 : ∀ w ∈ u_ws RX8 TX8 15, w ∈ wq_X8_approve := fun w h => List.mem_cons_of_mem _ (iU_X8 w h)
  have hf_41 := hts _ (List.mem_cons_of_mem _ A_595)
  have hf_19 := hts _ (List.mem_cons_of_mem _ A_584)
  have hin_X7 : ∀ w ∈ u_ws RX7 TX7 7, w ∈ wq_X8_approve := fun w h => List.mem_cons_of_mem _ (iU_X7 w h)
  have hl : lv_has ls 3 [(0, .ref (ad 0)), (1, .int p1), (2, .int p2)] := hl
  have hown : s.vm.findClass RX8 = some m.cls := hown
  unfold q_X8_approve at hp
  have B_14 : ∀ (s0 : Int32) (x1 : Int32) (x2 : Int32) (σ : Mem) (H : Heap) (locs : List Loc) (ls : Array Slot), va_P D vwCl (WM k ad g (σ)) H → va_D A (WM k ad g (σ)) → va_S A s.heap H locs → lv_has ls 3 [(0, .ref (ad 0)), (1, .int x1), (2, .int x2)] → (q_X8_approve_14 (g 0) (g 2) post) s0 x1 x2 σ → W p l e rm_X8_approve s m args below meth c H locs 0 0 Q (F0 m 14 ls [.int s0, .ref (ad 0)]) := by
    intro s0 x1 x2 σ H locs ls hP hD hS hl hp
    unfold q_X8_approve_14 at hp
    refine va_put (D := D) (ci := 12) (v := .int s0) (ty := .int) (C := RX8) (T := TX8) (N := 15) hx hb hts hin_X8 tyX8 tyX8_ok nmX8 hown hK hP hD hS 0 rfl rfl 0 (by decide) hf_41 (fun _ h9 => h9) rfl (by decide +kernel) rfl rfl (Nat.le_of_ble_eq_true rfl) dX8_approve_14 (fun H locs hP hD hS => ?_)
    obtain ⟨σ10001, eσ10001⟩ : ∃ z : Mem, z = mst (σ) 0 0 s0 := ⟨_, rfl⟩
    have hp := hp σ10001 eσ10001
    have hP : va_P D vwCl (WM k ad g (σ10001)) H := by rw [eσ10001, WM_s (by decide)]; exact hP
    have hD : va_D A (WM k ad g (σ10001)) := by rw [eσ10001, WM_s (by decide)]; exact hD
    refine lv_aload_n hx hb dX8_approve_17 rfl (lv_at hl 0 rfl) ?_
    refine va_get (D := D) (ci := 12) (C := RX8) (T := TX8) (N := 15) hx hb hts hin_X8 hown hK hP 0 rfl rfl 0 (by decide) hf_41 (fun _ h9 => h9) rfl dX8_approve_18 ?_
    refine lv_if_le (tgt := 26) hx hb dX8_approve_21 (by decide) (fun c10002 => ?_) (fun c10002 => ?_)
    · have hp := hp.1 c10002
      refine lv_aload_n hx hb dX8_approve_26 rfl (lv_at hl 0 rfl) ?_
      refine va_get (D := D) (ci := 12) (C := RX8) (T := TX8) (N := 15) hx hb hts hin_X8 hown hK hP 0 rfl rfl 4 (by decide) hf_19 (fun _ h9 => h9) rfl dX8_approve_27 ?_
      refine lv_iload_n hx hb dX8_approve_30 rfl (lv_at hl 1 rfl) ?_
      obtain ⟨j10003, ⟨hj10003, ej10003⟩, hp⟩ := hp
      refine wm_get_line (rest := []) hC hg hj10003 ej10003 (gA_V (a := Cond.code yX8_approve cX8_approve 3 (some .boolean)) A_621 A_622 A_623 A_583 A_613) hl.1 rfl (Nat.le_of_ble_eq_true rfl) (Nat.le_of_ble_eq_true rfl) (Nat.le_of_ble_eq_true rfl) dX8_approve_31 ⟨Nat.le_of_ble_eq_true rfl, Nat.le_of_ble_eq_true rfl⟩ hP hD hS (fun H locs hP hD hS => ?_)
      refine va_castS hx hb hown (hts _ (List.mem_cons_of_mem _ A_662)) (hK.1 11 _ rfl).2 (va_recv hK hP (ci := 11) (q0 := lnP g j10003) rfl (WM_ln k ad g (σ10001) hj10003)) dX8_approve_34 ?_
      refine lv_iload_n hx hb dX8_approve_37 rfl (lv_at hl 2 rfl) ?_
      obtain ⟨z10004, hp⟩ := hp
      refine va_putN (D := D) (ci := 11) (v := .int x2) (ty := .boolean) (C := RX7) (T := TX7) (N := 7) hx hb hts hin_X7 tyX7 tyX7_ok nmX7 hown hK hP hD hS (lnP g j10003) (WM_ln k ad g (σ10001) hj10003) rfl 5 (by decide) (va_Nw.use rfl (GG.nf hG (q := (RX8, 68, "MeetjoinModel$Line", "isApproved", "Z", "MeetjoinModel")) 5 rfl)) (fun _ h9 => h9) rfl (by decide +kernel) z10004.1 z10004.2 (Nat.le_of_ble_eq_true rfl) dX8_approve_38 (fun H locs hP hD hS => ?_)
      have hP := hP; have hD := hD
      rw [WM_lnS k ad g (σ10001) hg hj10003 (by decide)] at hP hD
      obtain ⟨σ10005, eσ10005⟩ : ∃ z : Mem, z = mst (σ10001) (100 + j10003) 5 x2 := ⟨_, rfl⟩
      have hp := hp σ10005 eσ10005
      have hP : va_P D vwCl (WM k ad g (σ10005)) H := by rw [eσ10005]; exact hP
      have hD : va_D A (WM k ad g (σ10005)) := by rw [eσ10005]; exact hD
      refine lv_aload_n hx hb dX8_approve_41 rfl (lv_at hl 0 rfl) ?_
      refine lv_aload_n hx hb dX8_approve_42 rfl (lv_at hl 0 rfl) ?_
      refine va_get (D := D) (ci := 12) (C := RX8) (T := TX8) (N := 15) hx hb hts hin_X8 hown hK hP 0 rfl rfl 4 (by decide) hf_19 (fun _ h9 => h9) rfl dX8_approve_43 ?_
      refine lv_iload_n hx hb dX8_approve_46 rfl (lv_at hl 1 rfl) ?_
      obtain ⟨j10006, ⟨hj10006, ej10006⟩, hp⟩ := hp
      refine wm_get_line (rest := [.ref (ad 0)]) hC hg hj10006 ej10006 (gA_V (a := Cond.code yX8_approve cX8_approve 3 (some .boolean)) A_621 A_622 A_623 A_583 A_613) hl.1 rfl (Nat.le_of_ble_eq_true rfl) (Nat.le_of_ble_eq_true rfl) (Nat.le_of_ble_eq_true rfl) dX8_approve_47 ⟨Nat.le_of_ble_eq_true rfl, Nat.le_of_ble_eq_true rfl⟩ hP hD hS (fun H locs hP hD hS => ?_)
      refine va_castS hx hb hown (hts _ (List.mem_cons_of_mem _ A_662)) (hK.1 11 _ rfl).2 (va_recv hK hP (ci := 11) (q0 := lnP g j10006) rfl (WM_ln k ad g (σ10005) hj10006)) dX8_approve_50 ?_
      refine fw_ciV (As := [.ref (ad (100 + j10006))]) (rest := []) hC (c_X8_counts l D k ad g hg hj10006 hp) (cwV 1 hts (gA_V A_624 A_625 A_626 A_601 A_609) rfl rfl rfl (by decide +kernel) ⟨Nat.le_of_ble_eq_true rfl, Nat.le_of_ble_eq_true rfl⟩) (va_recv hK hP (ci := 12) (q0 := 0) rfl rfl) rfl hl.1 rfl (Nat.le_of_ble_eq_true rfl) dX8_approve_53 ⟨Nat.le_of_ble_eq_true rfl, Nat.le_of_ble_eq_true rfl⟩ hP hD hS Jn.same (fun r10007 σ10008 H locs hP hD hS hp => ?_)
      have hP : va_P D vwCl (WM k ad g (σ10008)) H := hP
      have hD : va_D A (WM k ad g (σ10008)) := hD
      exact hret r10007 (σ10008) _ _ _ _ _ _ dX8_approve_56 hp.1.1 hP hD hS (Nat.le_of_ble_eq_true rfl) (Nat.le_of_ble_eq_true rfl) hp.2
    · have hp := hp.2 c10002
      refine lv_iconst (v := 0) hx hb dX8_approve_24 (by decide) ?_
      exact hret 0 (σ10001) _ _ _ _ _ _ dX8_approve_25 (by decide) hP hD hS (Nat.le_of_ble_eq_true rfl) (Nat.le_of_ble_eq_true rfl) hp
  refine lv_aload_n hx hb dX8_approve_0 rfl (lv_at hl 0 rfl) ?_
  refine lv_aload_n hx hb dX8_approve_1 rfl (lv_at hl 0 rfl) ?_
  refine lv_iload_n hx hb dX8_approve_2 rfl (lv_at hl 1 rfl) ?_
  refine fw_ciV (As := [.int p1]) (rest := [.ref (ad 0)]) hC (c_X8_isLine l D k ad g hg hp) (cwV 1 hts (gA_V A_681 A_682 A_683 A_601 A_604) rfl rfl rfl (by decide +kernel) ⟨Nat.le_of_ble_eq_true rfl, Nat.le_of_ble_eq_true rfl⟩) (va_recv hK hP (ci := 12) (q0 := 0) rfl rfl) rfl hl.1 rfl (Nat.le_of_ble_eq_true rfl) dX8_approve_3 ⟨Nat.le_of_ble_eq_true rfl, Nat.le_of_ble_eq_true rfl⟩ hP hD hS Jn.same (fun r1 σ2 H locs hP hD hS hp => ?_)
  have hP : va_P D vwCl (WM k ad g (σ2)) H := hP
  have hD : va_D A (WM k ad g (σ2)) := hD
  refine lv_if_eq (tgt := 13) hx hb dX8_approve_6 (by decide) (fun c3 => ?_) (fun c3 => ?_)
  · have hp := hp.1 c3
    refine lv_iconst (v := 1) hx hb dX8_approve_13 (by decide) ?_
    exact B_14 1 p1 p2 (σ2) _ _ _  hP hD hS (lv_sub hl [0, 1, 2] rfl) hp
  · have hp := hp.2 c3
    refine lv_iconst (v := 0) hx hb dX8_approve_9 (by decide) ?_
    refine lv_goto (tgt := 14) hx hb dX8_approve_10 (by decide) ?_
    exact B_14 0 p1 p2 (σ2) _ _ _  hP hD hS (lv_sub hl [0, 1, 2] rfl) hp
def q_X8_withdraw_14 (n : Nat) (c : Nat) (post : Int32 → Mem → Prop)  (s0 : Int32) (x1 : Int32) (x2 : Int32) (σ : Mem) : Prop := (∀ σ1001 : Mem, σ1001 = mst (σ) 0 0 s0 → ((((σ1001) 0 0) ≤ 0 → (∃ j1003 : Nat, (j1003 < n ∧ x1 = nI j1003) ∧ (bz x2 ∧ (∀ σ1005 : Mem, σ1005 = mst (σ1001) (100 + j1003) 6 x2 → (∃ j1006 : Nat, (j1006 < n ∧ x1 = nI j1006) ∧ (q_X8_counts n c j1006 (fun (r1007 : Int32) (σ1008 : Mem) => (bz r1007 ∧ post r1007 (σ1008))) (σ1005))))))) ∧ (¬ (((σ1001) 0 0) ≤ 0) → post 0 (σ1001))))
def q_X8_withdraw (n : Nat) (c : Nat) (post : Int32 → Mem → Prop) (p1 : Int32) (p2 : Int32) (σ : Mem) : Prop := (q_X8_isLine n c (fun (r1 : Int32) (σ2 : Mem) => ((r1 = 0 → (q_X8_withdraw_14 n c post) 1 p1 p2 (σ2)) ∧ (¬ (r1 = 0) → (q_X8_withdraw_14 n c post) 0 p1 p2 (σ2)))) p1 (σ))
abbrev rm_X8_withdraw : Room := { frames := 4, cells := 0, slots := 0, locals := 260 }
abbrev wq_X8_withdraw : List Cond := Cond.code yX8_withdraw cX8_withdraw 3 (some .boolean) :: wALL
set_option maxHeartbeats 4000000 in
set_option maxRecDepth 100000 in
theorem c_X8_withdraw (l : Launch) (D : va_G) (k ad g : Nat → Nat) (hg : gok g) {sz : Nat} {σ : Mem} {p1 : Int32} {p2 : Int32} {post : Int32 → Mem → Prop} (hp : q_X8_withdraw (g 0) (g 2) post p1 p2 σ) : Met l yX8_withdraw wq_X8_withdraw rm_X8_withdraw (va_Pc [.ref (ad 0), .int p1, .int p2] (Pw D k (WM k ad g (σ)) sz)) (va_Qi post (fun u => Bw D (WM k ad g (σ)) sz (WM k ad g u)) (va_A (WM k ad g (σ)) sz)) 0 0 (va_A (WM k ad g (σ)) sz) := by
  refine fw_i (wf := fun u : Mem => WM k ad g u) (by decide) rfl (Nat.le_of_ble_eq_true rfl) ?_
  intro p e s m args below meth c A Q ls hC hP hD hl hret
  obtain ⟨⟨hx, hb, hml, hown, hts⟩, hG, hA⟩ := id hC
  have hK := hG.1
  have hS : va_S A s.heap s.heap [] := va_S.rf
  have hin_X8 : ∀ w ∈ u_ws RX8 TX8 15, w ∈ wq_X8_withdraw := fun w h => List.mem_cons_of_mem _ (iU_X8 w h)
  have hf_41 := hts _ (List.mem_cons_of_mem _ A_595)
  have hf_19 := hts _ (List.mem_cons_of_mem _ A_584)
  have hin_X7 : ∀ w ∈ u_ws RX7 TX7 7, w ∈ wq_X8_withdraw := fun w h => List.mem_cons_of_mem _ (iU_X7 w h)
  have hl : lv_has ls 3 [(0, .ref (ad 0)), (1, .int p1), (2, .int p2)] := hl
  have hown : s.vm.findClass RX8 = some m.cls := hown
  unfold q_X8_withdraw at hp
  have B_14 : ∀ (s0 : Int32) (x1 : Int32) (x2 : Int32) (σ : Mem) (H : Heap) (locs : List Loc) (ls : Array Slot), va_P D vwCl (WM k ad g (σ)) H → va_D A (WM k ad g (σ)) → va_S A s.heap H locs → lv_has ls 3 [(0, .ref (ad 0)), (1, .int x1), (2, .int x2)] → (q_X8_withdraw_14 (g 0) (g 2) post) s0 x1 x2 σ → W p l e rm_X8_withdraw s m args below meth c H locs 0 0 Q (F0 m 14 ls [.int s0, .ref (ad 0)]) := by
    intro s0 x1 x2 σ H locs ls hP hD hS hl hp
    unfold q_X8_withdraw_14 at hp
    refine va_put (D := D) (ci := 12) (v := .int s0) (ty := .int) (C := RX8) (T := TX8) (N := 15) hx hb hts hin_X8 tyX8 tyX8_ok nmX8 hown hK hP hD hS 0 rfl rfl 0 (by decide) hf_41 (fun _ h9 => h9) rfl (by decide +kernel) rfl rfl (Nat.le_of_ble_eq_true rfl) dX8_withdraw_14 (fun H locs hP hD hS => ?_)
    obtain ⟨σ10001, eσ10001⟩ : ∃ z : Mem, z = mst (σ) 0 0 s0 := ⟨_, rfl⟩
    have hp := hp σ10001 eσ10001
    have hP : va_P D vwCl (WM k ad g (σ10001)) H := by rw [eσ10001, WM_s (by decide)]; exact hP
    have hD : va_D A (WM k ad g (σ10001)) := by rw [eσ10001, WM_s (by decide)]; exact hD
    refine lv_aload_n hx hb dX8_withdraw_17 rfl (lv_at hl 0 rfl) ?_
    refine va_get (D := D) (ci := 12) (C := RX8) (T := TX8) (N := 15) hx hb hts hin_X8 hown hK hP 0 rfl rfl 0 (by decide) hf_41 (fun _ h9 => h9) rfl dX8_withdraw_18 ?_
    refine lv_if_le (tgt := 26) hx hb dX8_withdraw_21 (by decide) (fun c10002 => ?_) (fun c10002 => ?_)
    · have hp := hp.1 c10002
      refine lv_aload_n hx hb dX8_withdraw_26 rfl (lv_at hl 0 rfl) ?_
      refine va_get (D := D) (ci := 12) (C := RX8) (T := TX8) (N := 15) hx hb hts hin_X8 hown hK hP 0 rfl rfl 4 (by decide) hf_19 (fun _ h9 => h9) rfl dX8_withdraw_27 ?_
      refine lv_iload_n hx hb dX8_withdraw_30 rfl (lv_at hl 1 rfl) ?_
      obtain ⟨j10003, ⟨hj10003, ej10003⟩, hp⟩ := hp
      refine wm_get_line (rest := []) hC hg hj10003 ej10003 (gA_V (a := Cond.code yX8_withdraw cX8_withdraw 3 (some .boolean)) A_621 A_622 A_623 A_583 A_613) hl.1 rfl (Nat.le_of_ble_eq_true rfl) (Nat.le_of_ble_eq_true rfl) (Nat.le_of_ble_eq_true rfl) dX8_withdraw_31 ⟨Nat.le_of_ble_eq_true rfl, Nat.le_of_ble_eq_true rfl⟩ hP hD hS (fun H locs hP hD hS => ?_)
      refine va_castS hx hb hown (hts _ (List.mem_cons_of_mem _ A_662)) (hK.1 11 _ rfl).2 (va_recv hK hP (ci := 11) (q0 := lnP g j10003) rfl (WM_ln k ad g (σ10001) hj10003)) dX8_withdraw_34 ?_
      refine lv_iload_n hx hb dX8_withdraw_37 rfl (lv_at hl 2 rfl) ?_
      obtain ⟨z10004, hp⟩ := hp
      refine va_putN (D := D) (ci := 11) (v := .int x2) (ty := .boolean) (C := RX7) (T := TX7) (N := 7) hx hb hts hin_X7 tyX7 tyX7_ok nmX7 hown hK hP hD hS (lnP g j10003) (WM_ln k ad g (σ10001) hj10003) rfl 6 (by decide) (va_Nw.use rfl (GG.nf hG (q := (RX8, 56, "MeetjoinModel$Line", "isWithdrawn", "Z", "MeetjoinModel")) 2 rfl)) (fun _ h9 => h9) rfl (by decide +kernel) z10004.1 z10004.2 (Nat.le_of_ble_eq_true rfl) dX8_withdraw_38 (fun H locs hP hD hS => ?_)
      have hP := hP; have hD := hD
      rw [WM_lnS k ad g (σ10001) hg hj10003 (by decide)] at hP hD
      obtain ⟨σ10005, eσ10005⟩ : ∃ z : Mem, z = mst (σ10001) (100 + j10003) 6 x2 := ⟨_, rfl⟩
      have hp := hp σ10005 eσ10005
      have hP : va_P D vwCl (WM k ad g (σ10005)) H := by rw [eσ10005]; exact hP
      have hD : va_D A (WM k ad g (σ10005)) := by rw [eσ10005]; exact hD
      refine lv_aload_n hx hb dX8_withdraw_41 rfl (lv_at hl 0 rfl) ?_
      refine lv_aload_n hx hb dX8_withdraw_42 rfl (lv_at hl 0 rfl) ?_
      refine va_get (D := D) (ci := 12) (C := RX8) (T := TX8) (N := 15) hx hb hts hin_X8 hown hK hP 0 rfl rfl 4 (by decide) hf_19 (fun _ h9 => h9) rfl dX8_withdraw_43 ?_
      refine lv_iload_n hx hb dX8_withdraw_46 rfl (lv_at hl 1 rfl) ?_
      obtain ⟨j10006, ⟨hj10006, ej10006⟩, hp⟩ := hp
      refine wm_get_line (rest := [.ref (ad 0)]) hC hg hj10006 ej10006 (gA_V (a := Cond.code yX8_withdraw cX8_withdraw 3 (some .boolean)) A_621 A_622 A_623 A_583 A_613) hl.1 rfl (Nat.le_of_ble_eq_true rfl) (Nat.le_of_ble_eq_true rfl) (Nat.le_of_ble_eq_true rfl) dX8_withdraw_47 ⟨Nat.le_of_ble_eq_true rfl, Nat.le_of_ble_eq_true rfl⟩ hP hD hS (fun H locs hP hD hS => ?_)
      refine va_castS hx hb hown (hts _ (List.mem_cons_of_mem _ A_662)) (hK.1 11 _ rfl).2 (va_recv hK hP (ci := 11) (q0 := lnP g j10006) rfl (WM_ln k ad g (σ10005) hj10006)) dX8_withdraw_50 ?_
      refine fw_ciV (As := [.ref (ad (100 + j10006))]) (rest := []) hC (c_X8_counts l D k ad g hg hj10006 hp) (cwV 1 hts (gA_V A_624 A_625 A_626 A_601 A_609) rfl rfl rfl (by decide +kernel) ⟨Nat.le_of_ble_eq_true rfl, Nat.le_of_ble_eq_true rfl⟩) (va_recv hK hP (ci := 12) (q0 := 0) rfl rfl) rfl hl.1 rfl (Nat.le_of_ble_eq_true rfl) dX8_withdraw_53 ⟨Nat.le_of_ble_eq_true rfl, Nat.le_of_ble_eq_true rfl⟩ hP hD hS Jn.same (fun r10007 σ10008 H locs hP hD hS hp => ?_)
      have hP : va_P D vwCl (WM k ad g (σ10008)) H := hP
      have hD : va_D A (WM k ad g (σ10008)) := hD
      exact hret r10007 (σ10008) _ _ _ _ _ _ dX8_withdraw_56 hp.1.1 hP hD hS (Nat.le_of_ble_eq_true rfl) (Nat.le_of_ble_eq_true rfl) hp.2
    · have hp := hp.2 c10002
      refine lv_iconst (v := 0) hx hb dX8_withdraw_24 (by decide) ?_
      exact hret 0 (σ10001) _ _ _ _ _ _ dX8_withdraw_25 (by decide) hP hD hS (Nat.le_of_ble_eq_true rfl) (Nat.le_of_ble_eq_true rfl) hp
  refine lv_aload_n hx hb dX8_withdraw_0 rfl (lv_at hl 0 rfl) ?_
  refine lv_aload_n hx hb dX8_withdraw_1 rfl (lv_at hl 0 rfl) ?_
  refine lv_iload_n hx hb dX8_withdraw_2 rfl (lv_at hl 1 rfl) ?_
  refine fw_ciV (As := [.int p1]) (rest := [.ref (ad 0)]) hC (c_X8_isLine l D k ad g hg hp) (cwV 1 hts (gA_V A_681 A_682 A_683 A_601 A_604) rfl rfl rfl (by decide +kernel) ⟨Nat.le_of_ble_eq_true rfl, Nat.le_of_ble_eq_true rfl⟩) (va_recv hK hP (ci := 12) (q0 := 0) rfl rfl) rfl hl.1 rfl (Nat.le_of_ble_eq_true rfl) dX8_withdraw_3 ⟨Nat.le_of_ble_eq_true rfl, Nat.le_of_ble_eq_true rfl⟩ hP hD hS Jn.same (fun r1 σ2 H locs hP hD hS hp => ?_)
  have hP : va_P D vwCl (WM k ad g (σ2)) H := hP
  have hD : va_D A (WM k ad g (σ2)) := hD
  refine lv_if_eq (tgt := 13) hx hb dX8_withdraw_6 (by decide) (fun c3 => ?_) (fun c3 => ?_)
  · have hp := hp.1 c3
    refine lv_iconst (v := 1) hx hb dX8_withdraw_13 (by decide) ?_
    exact B_14 1 p1 p2 (σ2) _ _ _  hP hD hS (lv_sub hl [0, 1, 2] rfl) hp
  · have hp := hp.2 c3
    refine lv_iconst (v := 0) hx hb dX8_withdraw_9 (by decide) ?_
    refine lv_goto (tgt := 14) hx hb dX8_withdraw_10 (by decide) ?_
    exact B_14 0 p1 p2 (σ2) _ _ _  hP hD hS (lv_sub hl [0, 1, 2] rfl) hp
def q_X8_weight (n : Nat) (c : Nat) (post : Int32 → Mem → Prop) (p1 : Int32) (p2 : Int32) (σ : Mem) : Prop := (∀ σ1 : Mem, σ1 = mst (σ) 0 0 0 → (q_X8_isField n c (fun (r2 : Int32) (σ3 : Mem) => ((r2 ≠ 0 → (q_X8_is (fun (r5 : Int32) (σ6 : Mem) => ((r5 ≠ 0 → (vp_in p1 5 ∧ (∀ v9 : Int32, v9 = ((σ3) 2 p1.toNatClampNeg) → (vp_in p1 5 ∧ (∀ σ11 : Mem, σ11 = mst (σ3) 2 p1.toNatClampNeg p2 → post v9 (σ11)))))) ∧ (r5 = 0 → (q_X8_refuse n c (fun (r12 : Int32) (σ13 : Mem) => post r12 (σ13)) 2 (σ3))))) p2 0 9 (σ3))) ∧ (r2 = 0 → (q_X8_refuse n c (fun (r14 : Int32) (σ15 : Mem) => post r14 (σ15)) 1 (σ3))))) p1 (σ1)))
abbrev rm_X8_weight : Room := { frames := 2, cells := 0, slots := 0, locals := 43 }
abbrev wq_X8_weight : List Cond := Cond.code yX8_weight cX8_weight 4 (some .int) :: wALL
set_option maxHeartbeats 4000000 in
set_option maxRecDepth 100000 in
theorem c_X8_weight (l : Launch) (D : va_G) (k ad g : Nat → Nat) (hg : gok g) {sz : Nat} {σ : Mem} {p1 : Int32} {p2 : Int32} {post : Int32 → Mem → Prop} (hp : q_X8_weight (g 0) (g 2) post p1 p2 σ) : Met l yX8_weight wq_X8_weight rm_X8_weight (va_Pc [.ref (ad 0), .int p1, .int p2] (Pw D k (WM k ad g (σ)) sz)) (va_Qi post (fun u => Bw D (WM k ad g (σ)) sz (WM k ad g u)) (va_A (WM k ad g (σ)) sz)) 0 0 (va_A (WM k ad g (σ)) sz) := by
  refine fw_i (wf := fun u : Mem => WM k ad g u) (by decide) rfl (Nat.le_of_ble_eq_true rfl) ?_
  intro p e s m args below meth c A Q ls hC hP hD hl hret
  obtain ⟨⟨hx, hb, hml, hown, hts⟩, hG, hA⟩ := id hC
  have hK := hG.1
  have hS : va_S A s.heap s.heap [] := va_S.rf
  have hin_X8 : ∀ w ∈ u_ws RX8 TX8 15, w ∈ wq_X8_weight := fun w h => List.mem_cons_of_mem _ (iU_X8 w h)
  have hf_41 := hts _ (List.mem_cons_of_mem _ A_595)
  have hf_13 := hts _ (List.mem_cons_of_mem _ A_580)
  have hl : lv_has ls 4 [(0, .ref (ad 0)), (1, .int p1), (2, .int p2)] := hl
  have hown : s.vm.findClass RX8 = some m.cls := hown
  unfold q_X8_weight at hp
  refine lv_aload_n hx hb dX8_weight_0 rfl (lv_at hl 0 rfl) ?_
  refine lv_iconst (v := 0) hx hb dX8_weight_1 (by decide) ?_
  refine va_put (D := D) (ci := 12) (v := .int 0) (ty := .int) (C := RX8) (T := TX8) (N := 15) hx hb hts hin_X8 tyX8 tyX8_ok nmX8 hown hK hP hD hS 0 rfl rfl 0 (by decide) hf_41 (fun _ h9 => h9) rfl (by decide +kernel) rfl rfl (Nat.le_of_ble_eq_true rfl) dX8_weight_2 (fun H locs hP hD hS => ?_)
  obtain ⟨σ1, eσ1⟩ : ∃ z : Mem, z = mst (σ) 0 0 0 := ⟨_, rfl⟩
  have hp := hp σ1 eσ1
  have hP : va_P D vwCl (WM k ad g (σ1)) H := by rw [eσ1, WM_s (by decide)]; exact hP
  have hD : va_D A (WM k ad g (σ1)) := by rw [eσ1, WM_s (by decide)]; exact hD
  refine lv_aload_n hx hb dX8_weight_5 rfl (lv_at hl 0 rfl) ?_
  refine lv_iload_n hx hb dX8_weight_6 rfl (lv_at hl 1 rfl) ?_
  refine fw_ciV (As := [.int p1]) (rest := []) hC (c_X8_isField l D k ad g hg hp) (cwV 1 hts (gA_V A_665 A_666 A_667 A_601 A_597) rfl rfl rfl (by decide +kernel) ⟨Nat.le_of_ble_eq_true rfl, Nat.le_of_ble_eq_true rfl⟩) (va_recv hK hP (ci := 12) (q0 := 0) rfl rfl) rfl hl.1 rfl (Nat.le_of_ble_eq_true rfl) dX8_weight_7 ⟨Nat.le_of_ble_eq_true rfl, Nat.le_of_ble_eq_true rfl⟩ hP hD hS Jn.same (fun r2 σ3 H locs hP hD hS hp => ?_)
  have hP : va_P D vwCl (WM k ad g (σ3)) H := hP
  have hD : va_D A (WM k ad g (σ3)) := hD
  refine lv_if_ne (tgt := 19) hx hb dX8_weight_10 (by decide) (fun c4 => ?_) (fun c4 => ?_)
  · have hp := hp.1 c4
    refine lv_iload_n hx hb dX8_weight_19 rfl (lv_at hl 2 rfl) ?_
    refine lv_iconst (v := 0) hx hb dX8_weight_20 (by decide) ?_
    refine lv_bipush (v := 9) hx hb dX8_weight_21 (by decide) ?_
    refine fw_ciS (As := [.int p2, .int 0, .int 9]) (rest := []) hC (c_X8_is l D k hp) (va_cwS 3 hts (gA_S A_599 A_600 A_601 A_596) rfl rfl rfl (by decide +kernel) ⟨Nat.le_of_ble_eq_true rfl, Nat.le_of_ble_eq_true rfl⟩) rfl hl.1 rfl (Nat.le_of_ble_eq_true rfl) dX8_weight_23 ⟨Nat.le_of_ble_eq_true rfl, Nat.le_of_ble_eq_true rfl⟩ P_nil D_nil hS (Jn.pure (w0 := fun _ : Mem => []) hP hD) (fun r5 σ6 H locs hP hD hS hp => ?_)
    have hP : va_P D vwCl (WM k ad g (σ3)) H := hP
    have hD : va_D A (WM k ad g (σ3)) := hD
    refine lv_if_ne (tgt := 35) hx hb dX8_weight_26 (by decide) (fun c7 => ?_) (fun c7 => ?_)
    · have hp := hp.1 c7
      refine lv_aload_n hx hb dX8_weight_35 rfl (lv_at hl 0 rfl) ?_
      refine va_get (D := D) (ci := 12) (C := RX8) (T := TX8) (N := 15) hx hb hts hin_X8 hown hK hP 0 rfl rfl 2 (by decide) hf_13 (fun _ h9 => h9) rfl dX8_weight_36 ?_
      refine lv_iload_n hx hb dX8_weight_39 rfl (lv_at hl 1 rfl) ?_
      obtain ⟨h8, hp⟩ := hp
      refine va_iald hx hb hK hP 2 0 rfl rfl h8 dX8_weight_40 ?_
      refine lv_topi (fun v9 ev9 => ?_)
      have hp := hp v9 ev9
      refine lv_istore_n (lv' := [(3, .int v9), (0, .ref (ad 0)), (1, .int p1), (2, .int p2)]) hx hb dX8_weight_41 rfl hl (by decide) rfl (fun ls hl => ?_)
      refine lv_aload_n hx hb dX8_weight_42 rfl (lv_at hl 1 rfl) ?_
      refine va_get (D := D) (ci := 12) (C := RX8) (T := TX8) (N := 15) hx hb hts hin_X8 hown hK hP 0 rfl rfl 2 (by decide) hf_13 (fun _ h9 => h9) rfl dX8_weight_43 ?_
      refine lv_iload_n hx hb dX8_weight_46 rfl (lv_at hl 2 rfl) ?_
      refine lv_iload_n hx hb dX8_weight_47 rfl (lv_at hl 3 rfl) ?_
      obtain ⟨h10, hp⟩ := hp
      refine va_iast hx hb hK hP hD hS 2 0 rfl rfl h10 dX8_weight_48 (fun H locs hP hD hS => ?_)
      obtain ⟨σ11, eσ11⟩ : ∃ z : Mem, z = mst (σ3) 2 p1.toNatClampNeg p2 := ⟨_, rfl⟩
      have hp := hp σ11 eσ11
      have hP : va_P D vwCl (WM k ad g (σ11)) H := by rw [eσ11, WM_s (by decide)]; exact hP
      have hD : va_D A (WM k ad g (σ11)) := by rw [eσ11, WM_s (by decide)]; exact hD
      refine lv_iload_n hx hb dX8_weight_49 rfl (lv_at hl 0 rfl) ?_
      exact hret v9 (σ11) _ _ _ _ _ _ dX8_weight_50 rfl hP hD hS (Nat.le_of_ble_eq_true rfl) (Nat.le_of_ble_eq_true rfl) hp
    · have hp := hp.2 c7
      refine lv_aload_n hx hb dX8_weight_29 rfl (lv_at hl 0 rfl) ?_
      refine lv_iconst (v := 2) hx hb dX8_weight_30 (by decide) ?_
      refine fw_ciV (As := [.int 2]) (rest := []) hC (c_X8_refuse l D k ad g hg hp) (cwV 1 hts (gA_V A_629 A_630 A_631 A_601 A_594) rfl rfl rfl (by decide +kernel) ⟨Nat.le_of_ble_eq_true rfl, Nat.le_of_ble_eq_true rfl⟩) (va_recv hK hP (ci := 12) (q0 := 0) rfl rfl) rfl hl.1 rfl (Nat.le_of_ble_eq_true rfl) dX8_weight_31 ⟨Nat.le_of_ble_eq_true rfl, Nat.le_of_ble_eq_true rfl⟩ hP hD hS Jn.same (fun r12 σ13 H locs hP hD hS hp => ?_)
      have hP : va_P D vwCl (WM k ad g (σ13)) H := hP
      have hD : va_D A (WM k ad g (σ13)) := hD
      exact hret r12 (σ13) _ _ _ _ _ _ dX8_weight_34 rfl hP hD hS (Nat.le_of_ble_eq_true rfl) (Nat.le_of_ble_eq_true rfl) hp
  · have hp := hp.2 c4
    refine lv_aload_n hx hb dX8_weight_13 rfl (lv_at hl 0 rfl) ?_
    refine lv_iconst (v := 1) hx hb dX8_weight_14 (by decide) ?_
    refine fw_ciV (As := [.int 1]) (rest := []) hC (c_X8_refuse l D k ad g hg hp) (cwV 1 hts (gA_V A_629 A_630 A_631 A_601 A_594) rfl rfl rfl (by decide +kernel) ⟨Nat.le_of_ble_eq_true rfl, Nat.le_of_ble_eq_true rfl⟩) (va_recv hK hP (ci := 12) (q0 := 0) rfl rfl) rfl hl.1 rfl (Nat.le_of_ble_eq_true rfl) dX8_weight_15 ⟨Nat.le_of_ble_eq_true rfl, Nat.le_of_ble_eq_true rfl⟩ hP hD hS Jn.same (fun r14 σ15 H locs hP hD hS hp => ?_)
    have hP : va_P D vwCl (WM k ad g (σ15)) H := hP
    have hD : va_D A (WM k ad g (σ15)) := hD
    exact hret r14 (σ15) _ _ _ _ _ _ dX8_weight_18 rfl hP hD hS (Nat.le_of_ble_eq_true rfl) (Nat.le_of_ble_eq_true rfl) hp
def q_X8_drifts_46 (n : Nat) (c : Nat) (post : Int32 → Mem → Prop)  (s0 : Int32) (σ : Mem) : Prop := (bz s0 ∧ post s0 (σ))
def q_X8_drifts_45 (n : Nat) (c : Nat) (post : Int32 → Mem → Prop)  (σ : Mem) : Prop := (q_X8_drifts_46 n c post) 0 (σ)
def q_X8_drifts (n : Nat) (c : Nat) (post : Int32 → Mem → Prop) (p1 : Int32) (p2 : Int32) (σ : Mem) : Prop := (vp_in p1 6 ∧ ((((σ) 5 p1.toNatClampNeg) = (-1) → (q_X8_drifts_45 n c post) (σ)) ∧ (¬ (((σ) 5 p1.toNatClampNeg) = (-1)) → (vp_in ((p1 * 5) + p2) 30 ∧ (vp_in p1 6 ∧ (∃ j5 : Nat, (j5 < c ∧ ((σ) 5 p1.toNatClampNeg) = nI j5) ∧ (vp_in p2 5 ∧ ((((σ) 6 (((p1 * 5) + p2).toNatClampNeg)) = ((σ) (200 + j5) p2.toNatClampNeg) → (q_X8_drifts_45 n c post) (σ)) ∧ (¬ (((σ) 6 (((p1 * 5) + p2).toNatClampNeg)) = ((σ) (200 + j5) p2.toNatClampNeg)) → (q_X8_drifts_46 n c post) 1 (σ))))))))))
abbrev rm_X8_drifts : Room := { frames := 4, cells := 0, slots := 0, locals := 260 }
abbrev wq_X8_drifts : List Cond := Cond.code yX8_drifts cX8_drifts 3 (some .boolean) :: wALL
set_option maxHeartbeats 4000000 in
set_option maxRecDepth 100000 in
theorem c_X8_drifts (l : Launch) (D : va_G) (k ad g : Nat → Nat) (hg : gok g) {sz : Nat} {σ : Mem} {p1 : Int32} {p2 : Int32} {post : Int32 → Mem → Prop} (hp : q_X8_drifts (g 0) (g 2) post p1 p2 σ) : Met l yX8_drifts wq_X8_drifts rm_X8_drifts (va_Pc [.ref (ad 0), .int p1, .int p2] (Pw D k (WM k ad g (σ)) sz)) (va_Qi post (fun u => Bw D (WM k ad g (σ)) sz (WM k ad g u)) (va_A (WM k ad g (σ)) sz)) 0 0 (va_A (WM k ad g (σ)) sz) := by
  refine fw_i (wf := fun u : Mem => WM k ad g u) (by decide) rfl (Nat.le_of_ble_eq_true rfl) ?_
  intro p e s m args below meth c A Q ls hC hP hD hl hret
  obtain ⟨⟨hx, hb, hml, hown, hts⟩, hG, hA⟩ := id hC
  have hK := hG.1
  have hS : va_S A s.heap s.heap [] := va_S.rf
  have hin_X8 : ∀ w ∈ u_ws RX8 TX8 15, w ∈ wq_X8_drifts := fun w h => List.mem_cons_of_mem _ (iU_X8 w h)
  have hf_26 := hts _ (List.mem_cons_of_mem _ A_586)
  have hf_29 := hts _ (List.mem_cons_of_mem _ A_587)
  have hf_23 := hts _ (List.mem_cons_of_mem _ A_585)
  have hl : lv_has ls 3 [(0, .ref (ad 0)), (1, .int p1), (2, .int p2)] := hl
  have hown : s.vm.findClass RX8 = some m.cls := hown
  unfold q_X8_drifts at hp
  have B_46 : ∀ (s0 : Int32) (σ : Mem) (H : Heap) (locs : List Loc) (ls : Array Slot), va_P D vwCl (WM k ad g (σ)) H → va_D A (WM k ad g (σ)) → va_S A s.heap H locs → lv_has ls 3 [] → (q_X8_drifts_46 (g 0) (g 2) post) s0 σ → W p l e rm_X8_drifts s m args below meth c H locs 0 0 Q (F0 m 46 ls [.int s0]) := by
    intro s0 σ H locs ls hP hD hS hl hp
    unfold q_X8_drifts_46 at hp
    exact hret s0 (σ) _ _ _ _ _ _ dX8_drifts_46 hp.1.1 hP hD hS (Nat.le_of_ble_eq_true rfl) (Nat.le_of_ble_eq_true rfl) hp.2
  have B_45 : ∀  (σ : Mem) (H : Heap) (locs : List Loc) (ls : Array Slot), va_P D vwCl (WM k ad g (σ)) H → va_D A (WM k ad g (σ)) → va_S A s.heap H locs → lv_has ls 3 [] → (q_X8_drifts_45 (g 0) (g 2) post)  σ → W p l e rm_X8_drifts s m args below meth c H locs 0 0 Q (F0 m 45 ls []) := by
    intro  σ H locs ls hP hD hS hl hp
    unfold q_X8_drifts_45 at hp
    refine lv_iconst (v := 0) hx hb dX8_drifts_45 (by decide) ?_
    exact B_46 0 (σ) _ _ _  hP hD hS (lv_sub hl [] rfl) hp
  refine lv_aload_n hx hb dX8_drifts_0 rfl (lv_at hl 0 rfl) ?_
  refine va_get (D := D) (ci := 12) (C := RX8) (T := TX8) (N := 15) hx hb hts hin_X8 hown hK hP 0 rfl rfl 6 (by decide) hf_26 (fun _ h9 => h9) rfl dX8_drifts_1 ?_
  refine lv_iload_n hx hb dX8_drifts_4 rfl (lv_at hl 1 rfl) ?_
  obtain ⟨h1, hp⟩ := hp
  refine va_iald hx hb hK hP 5 0 rfl rfl h1 dX8_drifts_5 ?_
  refine lv_iconst (v := (-1)) hx hb dX8_drifts_6 (by decide) ?_
  refine lv_icmp_eq (tgt := 45) hx hb dX8_drifts_7 (by decide) (fun c2 => ?_) (fun c2 => ?_)
  · have hp := hp.1 c2
    exact B_45  (σ) _ _ _  hP hD hS (lv_sub hl [] rfl) hp
  · have hp := hp.2 c2
    refine lv_aload_n hx hb dX8_drifts_10 rfl (lv_at hl 0 rfl) ?_
    refine va_get (D := D) (ci := 12) (C := RX8) (T := TX8) (N := 15) hx hb hts hin_X8 hown hK hP 0 rfl rfl 7 (by decide) hf_29 (fun _ h9 => h9) rfl dX8_drifts_11 ?_
    refine lv_iload_n hx hb dX8_drifts_14 rfl (lv_at hl 1 rfl) ?_
    refine lv_iconst (v := 5) hx hb dX8_drifts_15 (by decide) ?_
    refine lv_imul hx hb dX8_drifts_16 ?_
    refine lv_iload_n hx hb dX8_drifts_17 rfl (lv_at hl 2 rfl) ?_
    refine lv_iadd hx hb dX8_drifts_18 ?_
    obtain ⟨h3, hp⟩ := hp
    refine va_iald hx hb hK hP 6 0 rfl rfl h3 dX8_drifts_19 ?_
    refine lv_aload_n hx hb dX8_drifts_20 rfl (lv_at hl 0 rfl) ?_
    refine va_get (D := D) (ci := 12) (C := RX8) (T := TX8) (N := 15) hx hb hts hin_X8 hown hK hP 0 rfl rfl 5 (by decide) hf_23 (fun _ h9 => h9) rfl dX8_drifts_21 ?_
    refine lv_aload_n hx hb dX8_drifts_24 rfl (lv_at hl 0 rfl) ?_
    refine va_get (D := D) (ci := 12) (C := RX8) (T := TX8) (N := 15) hx hb hts hin_X8 hown hK hP 0 rfl rfl 6 (by decide) hf_26 (fun _ h9 => h9) rfl dX8_drifts_25 ?_
    refine lv_iload_n hx hb dX8_drifts_28 rfl (lv_at hl 1 rfl) ?_
    obtain ⟨h4, hp⟩ := hp
    refine va_iald hx hb hK hP 5 0 rfl rfl h4 dX8_drifts_29 ?_
    obtain ⟨j5, ⟨hj5, ej5⟩, hp⟩ := hp
    refine wm_get_commit (rest := [.int ((σ) 6 (((p1 * 5) + p2).toNatClampNeg))]) hC hg hj5 ej5 (gA_V (a := Cond.code yX8_drifts cX8_drifts 3 (some .boolean)) A_621 A_622 A_623 A_583 A_613) hl.1 rfl (Nat.le_of_ble_eq_true rfl) (Nat.le_of_ble_eq_true rfl) (Nat.le_of_ble_eq_true rfl) dX8_drifts_30 ⟨Nat.le_of_ble_eq_true rfl, Nat.le_of_ble_eq_true rfl⟩ hP hD hS (fun H locs hP hD hS => ?_)
    refine va_castA hx hb hown (hts _ (List.mem_cons_of_mem _ A_783)) hP (cmP g j5) (WM_cm k ad g (σ) hj5) hG.2.1.1 dX8_drifts_33 ?_
    refine lv_iload_n hx hb dX8_drifts_36 rfl (lv_at hl 2 rfl) ?_
    obtain ⟨h6, hp⟩ := hp
    refine va_iald hx hb hK hP (cmP g j5) 0 (WM_cm k ad g (σ) hj5) rfl h6 dX8_drifts_37 ?_
    refine lv_icmp_eq (tgt := 45) hx hb dX8_drifts_38 (by decide) (fun c7 => ?_) (fun c7 => ?_)
    · have hp := hp.1 c7
      exact B_45  (σ) _ _ _  hP hD hS (lv_sub hl [] rfl) hp
    · have hp := hp.2 c7
      refine lv_iconst (v := 1) hx hb dX8_drifts_41 (by decide) ?_
      refine lv_goto (tgt := 46) hx hb dX8_drifts_42 (by decide) ?_
      exact B_46 1 (σ) _ _ _  hP hD hS (lv_sub hl [] rfl) hp
def q_X8_drifting_37 (n : Nat) (c : Nat) (post : Int32 → Mem → Prop)  (x2 : Int32) (σ : Mem) : Prop := post x2 (σ)
def q_X8_drifting_29 (n : Nat) (c : Nat) (post : Int32 → Mem → Prop) (kE_37 : Int32 → Mem → Prop) (kc_4 : Int32 → Int32 → Int32 → Mem → Prop) (s0 : Int32) (s1 : Int32) (x1 : Int32) (x3 : Int32) (σ : Mem) : Prop := (∀ v2001 : Int32, v2001 = (s1 ||| s0) → (∀ v2002 : Int32, v2002 = x3 + 1 → kc_4 x1 v2001 v2002 (σ)))
def q_X8_drifting_4 (n : Nat) (c : Nat) (post : Int32 → Mem → Prop) (kE_37 : Int32 → Mem → Prop) (kc_4 : Int32 → Int32 → Int32 → Mem → Prop) (x1 : Int32) (x2 : Int32) (x3 : Int32) (σ : Mem) : Prop := ((((σ) 0 3) ≤ x3 → kE_37 x2 (σ)) ∧ (¬ (((σ) 0 3) ≤ x3) → (q_X8_drifts n c (fun (r1002 : Int32) (σ1003 : Mem) => ((r1002 = 0 → (q_X8_drifting_29 n c post kE_37 kc_4) 0 x2 x1 x3 (σ1003)) ∧ (¬ (r1002 = 0) → (q_X8_drifting_29 n c post kE_37 kc_4) ((1 : Int32) <<< (x3 &&& 31)) x2 x1 x3 (σ1003)))) x1 x3 (σ))))
def q_X8_drifting (n : Nat) (c : Nat) (post : Int32 → Mem → Prop) (p1 : Int32) (σ : Mem) : Prop := (∃ n9 : Nat, lp_4 (q_X8_drifting_4 n c post (q_X8_drifting_37 n c post)) n9 p1 0 0 (σ))
abbrev rm_X8_drifting : Room := { frames := 5, cells := 0, slots := 0, locals := 282 }
abbrev wq_X8_drifting : List Cond := Cond.code yX8_drifting cX8_drifting 4 (some .int) :: wALL
set_option maxHeartbeats 4000000 in
set_option maxRecDepth 100000 in
theorem c_X8_drifting (l : Launch) (D : va_G) (k ad g : Nat → Nat) (hg : gok g) {sz : Nat} {σ : Mem} {p1 : Int32} {post : Int32 → Mem → Prop} (hp : q_X8_drifting (g 0) (g 2) post p1 σ) : Met l yX8_drifting wq_X8_drifting rm_X8_drifting (va_Pc [.ref (ad 0), .int p1] (Pw D k (WM k ad g (σ)) sz)) (va_Qi post (fun u => Bw D (WM k ad g (σ)) sz (WM k ad g u)) (va_A (WM k ad g (σ)) sz)) 0 0 (va_A (WM k ad g (σ)) sz) := by
  refine fw_i (wf := fun u : Mem => WM k ad g u) (by decide) rfl (Nat.le_of_ble_eq_true rfl) ?_
  intro p e s m args below meth c A Q ls hC hP hD hl hret
  obtain ⟨⟨hx, hb, hml, hown, hts⟩, hG, hA⟩ := id hC
  have hK := hG.1
  have hS : va_S A s.heap s.heap [] := va_S.rf
  have hin_X8 : ∀ w ∈ u_ws RX8 TX8 15, w ∈ wq_X8_drifting := fun w h => List.mem_cons_of_mem _ (iU_X8 w h)
  have hf_45 := hts _ (List.mem_cons_of_mem _ A_598)
  have hl : lv_has ls 4 [(0, .ref (ad 0)), (1, .int p1)] := hl
  have hown : s.vm.findClass RX8 = some m.cls := hown
  unfold q_X8_drifting at hp
  have B_37 : ∀ (x2 : Int32) (σ : Mem) (H : Heap) (locs : List Loc) (ls : Array Slot), va_P D vwCl (WM k ad g (σ)) H → va_D A (WM k ad g (σ)) → va_S A s.heap H locs → lv_has ls 4 [(2, .int x2)] → (q_X8_drifting_37 (g 0) (g 2) post) x2 σ → W p l e rm_X8_drifting s m args below meth c H locs 0 0 Q (F0 m 37 ls []) := by
    intro x2 σ H locs ls hP hD hS hl hp
    unfold q_X8_drifting_37 at hp
    refine lv_iload_n hx hb dX8_drifting_37 rfl (lv_at hl 0 rfl) ?_
    exact hret x2 (σ) _ _ _ _ _ _ dX8_drifting_38 rfl hP hD hS (Nat.le_of_ble_eq_true rfl) (Nat.le_of_ble_eq_true rfl) hp
  have B_4 : ∀ (n_4 : Nat) (x1 : Int32) (x2 : Int32) (x3 : Int32) (σ : Mem) (H : Heap) (locs : List Loc) (ls : Array Slot), va_P D vwCl (WM k ad g (σ)) H → va_D A (WM k ad g (σ)) → va_S A s.heap H locs → lv_has ls 4 [(0, .ref (ad 0)), (1, .int x1), (2, .int x2), (3, .int x3)] → lp_4 (q_X8_drifting_4 (g 0) (g 2) post (q_X8_drifting_37 (g 0) (g 2) post)) n_4 x1 x2 x3 σ → W p l e rm_X8_drifting s m args below meth c H locs 0 0 Q (F0 m 4 ls []) := by
    intro n_4
    induction n_4 with
    | zero => intro x1 x2 x3 σ H locs ls hP hD hS hl hp; exact hp.elim
    | succ n_4 ih_4 =>
      have B_29 : ∀ (s0 : Int32) (s1 : Int32) (x1 : Int32) (x3 : Int32) (σ : Mem) (H : Heap) (locs : List Loc) (ls : Array Slot), va_P D vwCl (WM k ad g (σ)) H → va_D A (WM k ad g (σ)) → va_S A s.heap H locs → lv_has ls 4 [(0, .ref (ad 0)), (1, .int x1), (3, .int x3)] → (q_X8_drifting_29 (g 0) (g 2) post (q_X8_drifting_37 (g 0) (g 2) post) (lp_4 (q_X8_drifting_4 (g 0) (g 2) post (q_X8_drifting_37 (g 0) (g 2) post)) n_4)) s0 s1 x1 x3 σ → W p l e rm_X8_drifting s m args below meth c H locs 0 0 Q (F0 m 29 ls [.int s0, .int s1]) := by
        intro s0 s1 x1 x3 σ H locs ls hP hD hS hl hp
        unfold q_X8_drifting_29 at hp
        refine lv_ior hx hb dX8_drifting_29 ?_
        refine lv_topi (fun v20001 ev20001 => ?_)
        have hp := hp v20001 ev20001
        refine lv_istore_n (lv' := [(2, .int v20001), (0, .ref (ad 0)), (1, .int x1), (3, .int x3)]) hx hb dX8_drifting_30 rfl hl (by decide) rfl (fun ls hl => ?_)
        obtain ⟨v20002, ev20002⟩ : ∃ z : Int32, z = x3 + 1 := ⟨_, rfl⟩
        have hp := hp v20002 ev20002
        refine lv_iinc (v := v20002) (lv' := [(3, .int v20002), (2, .int v20001), (0, .ref (ad 0)), (1, .int x1)]) hx hb dX8_drifting_31 hl (k := 3) rfl (by rw [ev20002]; rfl) (by decide) rfl (fun ls hl => ?_)
        refine lv_goto (tgt := 4) hx hb dX8_drifting_34 (by decide) ?_
        exact ih_4 x1 v20001 v20002 (σ) _ _ _  hP hD hS (lv_sub hl [2, 3, 1, 0] rfl) hp
      intro x1 x2 x3 σ H locs ls hP hD hS hl hp
      have hp : q_X8_drifting_4 (g 0) (g 2) post (q_X8_drifting_37 (g 0) (g 2) post) (lp_4 (q_X8_drifting_4 (g 0) (g 2) post (q_X8_drifting_37 (g 0) (g 2) post)) n_4) x1 x2 x3 σ := hp
      unfold q_X8_drifting_4 at hp
      refine lv_iload_n hx hb dX8_drifting_4 rfl (lv_at hl 3 rfl) ?_
      refine lv_aload_n hx hb dX8_drifting_5 rfl (lv_at hl 0 rfl) ?_
      refine va_get (D := D) (ci := 12) (C := RX8) (T := TX8) (N := 15) hx hb hts hin_X8 hown hK hP 0 rfl rfl 3 (by decide) hf_45 (fun _ h9 => h9) rfl dX8_drifting_6 ?_
      refine lv_icmp_ge (tgt := 37) hx hb dX8_drifting_9 (by decide) (fun c10001 => ?_) (fun c10001 => ?_)
      · have hp := hp.1 c10001
        exact B_37 x2 (σ) _ _ _  hP hD hS (lv_sub hl [2] rfl) hp
      · have hp := hp.2 c10001
        refine lv_iload_n hx hb dX8_drifting_12 rfl (lv_at hl 2 rfl) ?_
        refine lv_aload_n hx hb dX8_drifting_13 rfl (lv_at hl 0 rfl) ?_
        refine lv_iload_n hx hb dX8_drifting_14 rfl (lv_at hl 1 rfl) ?_
        refine lv_iload_n hx hb dX8_drifting_15 rfl (lv_at hl 3 rfl) ?_
        refine fw_ciV (As := [.int x1, .int x3]) (rest := [.int x2]) hC (c_X8_drifts l D k ad g hg hp) (cwV 2 hts (gA_V A_784 A_785 A_786 A_601 A_782) rfl rfl rfl (by decide +kernel) ⟨Nat.le_of_ble_eq_true rfl, Nat.le_of_ble_eq_true rfl⟩) (va_recv hK hP (ci := 12) (q0 := 0) rfl rfl) rfl hl.1 rfl (Nat.le_of_ble_eq_true rfl) dX8_drifting_16 ⟨Nat.le_of_ble_eq_true rfl, Nat.le_of_ble_eq_true rfl⟩ hP hD hS Jn.same (fun r10002 σ10003 H locs hP hD hS hp => ?_)
        have hP : va_P D vwCl (WM k ad g (σ10003)) H := hP
        have hD : va_D A (WM k ad g (σ10003)) := hD
        refine lv_if_eq (tgt := 28) hx hb dX8_drifting_19 (by decide) (fun c10004 => ?_) (fun c10004 => ?_)
        · have hp := hp.1 c10004
          refine lv_iconst (v := 0) hx hb dX8_drifting_28 (by decide) ?_
          exact B_29 0 x2 x1 x3 (σ10003) _ _ _  hP hD hS (lv_sub hl [0, 1, 3] rfl) hp
        · have hp := hp.2 c10004
          refine lv_iconst (v := 1) hx hb dX8_drifting_22 (by decide) ?_
          refine lv_iload_n hx hb dX8_drifting_23 rfl (lv_at hl 3 rfl) ?_
          refine lv_ishl hx hb dX8_drifting_24 ?_
          refine lv_goto (tgt := 29) hx hb dX8_drifting_25 (by decide) ?_
          exact B_29 ((1 : Int32) <<< (x3 &&& 31)) x2 x1 x3 (σ10003) _ _ _  hP hD hS (lv_sub hl [0, 1, 3] rfl) hp
  refine lv_iconst (v := 0) hx hb dX8_drifting_0 (by decide) ?_
  refine lv_istore_n (lv' := [(2, .int 0), (0, .ref (ad 0)), (1, .int p1)]) hx hb dX8_drifting_1 rfl hl (by decide) rfl (fun ls hl => ?_)
  refine lv_iconst (v := 0) hx hb dX8_drifting_2 (by decide) ?_
  refine lv_istore_n (lv' := [(3, .int 0), (2, .int 0), (0, .ref (ad 0)), (1, .int p1)]) hx hb dX8_drifting_3 rfl hl (by decide) rfl (fun ls hl => ?_)
  obtain ⟨n9, hp⟩ := hp
  exact B_4 n9 p1 0 0 (σ) _ _ _  hP hD hS (lv_sub hl [2, 3, 1, 0] rfl) hp
def q_X8_wave_151 (n : Nat) (c : Nat) (post : Int32 → Mem → Prop)  (x3 : Int32) (σ : Mem) : Prop := post x3 (σ)
def q_X8_wave_145 (n : Nat) (c : Nat) (post : Int32 → Mem → Prop) (kE_151 : Int32 → Mem → Prop) (kc_49 : Int32 → Int32 → Int32 → Int32 → Mem → Prop) (x1 : Int32) (x2 : Int32) (x3 : Int32) (x4 : Int32) (σ : Mem) : Prop := (∀ v5001 : Int32, v5001 = x4 + 1 → kc_49 x1 x2 x3 v5001 (σ))
def q_X8_wave_107 (n : Nat) (c : Nat) (post : Int32 → Mem → Prop) (kE_145 : Int32 → Int32 → Int32 → Int32 → Mem → Prop) (kc_107 : Int32 → Int32 → Int32 → Int32 → Int32 → Mem → Prop) (x1 : Int32) (x2 : Int32) (x3 : Int32) (x4 : Int32) (x5 : Int32) (σ : Mem) : Prop := ((5 ≤ x5 → kE_145 x1 x2 x3 x4 (σ)) ∧ (¬ (5 ≤ x5) → (∃ j4002 : Nat, (j4002 < c ∧ x1 = nI j4002) ∧ (vp_in x5 5 ∧ (vp_in ((x4 * 5) + x5) 30 ∧ (∀ σ4005 : Mem, σ4005 = mst (σ) 6 (((x4 * 5) + x5).toNatClampNeg) ((σ) (200 + j4002) x5.toNatClampNeg) → (∀ v4006 : Int32, v4006 = x5 + 1 → kc_107 x1 x2 x3 x4 v4006 (σ4005))))))))
def q_X8_wave_94 (n : Nat) (c : Nat) (post : Int32 → Mem → Prop) (kE_151 : Int32 → Mem → Prop) (kc_49 : Int32 → Int32 → Int32 → Int32 → Mem → Prop) (s0 : Int32) (s1 : Int32) (x1 : Int32) (x2 : Int32) (x4 : Int32) (σ : Mem) : Prop := (∀ v3001 : Int32, v3001 = (s1 + s0) → (vp_in x4 6 ∧ (∀ σ3003 : Mem, σ3003 = mst (σ) 5 x4.toNatClampNeg x1 → (∃ n9 : Nat, lp_6 (q_X8_wave_107 n c post (q_X8_wave_145 n c post kE_151 kc_49)) n9 x1 x2 v3001 x4 0 (σ3003)))))
def q_X8_wave_89 (n : Nat) (c : Nat) (post : Int32 → Mem → Prop) (kE_151 : Int32 → Mem → Prop) (kc_49 : Int32 → Int32 → Int32 → Int32 → Mem → Prop) (s0 : Int32) (x1 : Int32) (x2 : Int32) (x4 : Int32) (σ : Mem) : Prop := (q_X8_wave_94 n c post kE_151 kc_49) 1 s0 x1 x2 x4 (σ)
def q_X8_wave_49 (n : Nat) (c : Nat) (post : Int32 → Mem → Prop) (kE_151 : Int32 → Mem → Prop) (kc_49 : Int32 → Int32 → Int32 → Int32 → Mem → Prop) (x1 : Int32) (x2 : Int32) (x3 : Int32) (x4 : Int32) (σ : Mem) : Prop := ((6 ≤ x4 → kE_151 x3 (σ)) ∧ (¬ (6 ≤ x4) → ((((x2 >>> (x4 &&& 31)) &&& 1) ≠ 0 → (vp_in x4 6 ∧ ((((σ) 5 x4.toNatClampNeg) ≠ x1 → (q_X8_wave_89 n c post kE_151 kc_49) x3 x1 x2 x4 (σ)) ∧ (((σ) 5 x4.toNatClampNeg) = x1 → (q_X8_drifting n c (fun (r1005 : Int32) (σ1006 : Mem) => ((r1005 = 0 → (q_X8_wave_94 n c post kE_151 kc_49) 0 x3 x1 x2 x4 (σ1006)) ∧ (¬ (r1005 = 0) → (q_X8_wave_89 n c post kE_151 kc_49) x3 x1 x2 x4 (σ1006)))) x4 (σ)))))) ∧ (((x2 >>> (x4 &&& 31)) &&& 1) = 0 → (q_X8_wave_145 n c post kE_151 kc_49) x1 x2 x3 x4 (σ)))))
def q_X8_wave (n : Nat) (c : Nat) (post : Int32 → Mem → Prop) (p1 : Int32) (p2 : Int32) (σ : Mem) : Prop := (∀ σ1 : Mem, σ1 = mst (σ) 0 0 0 → (q_X8_is (fun (r2 : Int32) (σ3 : Mem) => ((r2 ≠ 0 → (q_X8_is (fun (r5 : Int32) (σ6 : Mem) => ((r5 ≠ 0 → (∃ n9 : Nat, lp_5 (q_X8_wave_49 n c post (q_X8_wave_151 n c post)) n9 p1 p2 0 0 (σ1))) ∧ (r5 = 0 → (q_X8_refuse n c (fun (r8 : Int32) (σ9 : Mem) => post r8 (σ9)) 2 (σ1))))) p2 0 63 (σ1))) ∧ (r2 = 0 → (q_X8_refuse n c (fun (r10 : Int32) (σ11 : Mem) => post r10 (σ11)) 1 (σ1))))) p1 0 ((nI c) - 1) (σ1)))
abbrev rm_X8_wave : Room := { frames := 6, cells := 0, slots := 0, locals := 305 }
abbrev wq_X8_wave : List Cond := Cond.code yX8_wave cX8_wave 6 (some .int) :: wALL
set_option maxHeartbeats 4000000 in
set_option maxRecDepth 100000 in
theorem c_X8_wave (l : Launch) (D : va_G) (k ad g : Nat → Nat) (hg : gok g) {sz : Nat} {σ : Mem} {p1 : Int32} {p2 : Int32} {post : Int32 → Mem → Prop} (hp : q_X8_wave (g 0) (g 2) post p1 p2 σ) : Met l yX8_wave wq_X8_wave rm_X8_wave (va_Pc [.ref (ad 0), .int p1, .int p2] (Pw D k (WM k ad g (σ)) sz)) (va_Qi post (fun u => Bw D (WM k ad g (σ)) sz (WM k ad g u)) (va_A (WM k ad g (σ)) sz)) 0 0 (va_A (WM k ad g (σ)) sz) := by
  refine fw_i (wf := fun u : Mem => WM k ad g u) (by decide) rfl (Nat.le_of_ble_eq_true rfl) ?_
  intro p e s m args below meth c A Q ls hC hP hD hl hret
  obtain ⟨⟨hx, hb, hml, hown, hts⟩, hG, hA⟩ := id hC
  have hK := hG.1
  have hS : va_S A s.heap s.heap [] := va_S.rf
  have hin_X8 : ∀ w ∈ u_ws RX8 TX8 15, w ∈ wq_X8_wave := fun w h => List.mem_cons_of_mem _ (iU_X8 w h)
  have hf_41 := hts _ (List.mem_cons_of_mem _ A_595)
  have hf_23 := hts _ (List.mem_cons_of_mem _ A_585)
  have hf_26 := hts _ (List.mem_cons_of_mem _ A_586)
  have hf_29 := hts _ (List.mem_cons_of_mem _ A_587)
  have hl : lv_has ls 6 [(0, .ref (ad 0)), (1, .int p1), (2, .int p2)] := hl
  have hown : s.vm.findClass RX8 = some m.cls := hown
  unfold q_X8_wave at hp
  have B_151 : ∀ (x3 : Int32) (σ : Mem) (H : Heap) (locs : List Loc) (ls : Array Slot), va_P D vwCl (WM k ad g (σ)) H → va_D A (WM k ad g (σ)) → va_S A s.heap H locs → lv_has ls 6 [(3, .int x3)] → (q_X8_wave_151 (g 0) (g 2) post) x3 σ → W p l e rm_X8_wave s m args below meth c H locs 0 0 Q (F0 m 151 ls []) := by
    intro x3 σ H locs ls hP hD hS hl hp
    unfold q_X8_wave_151 at hp
    refine lv_iload_n hx hb dX8_wave_151 rfl (lv_at hl 0 rfl) ?_
    exact hret x3 (σ) _ _ _ _ _ _ dX8_wave_152 rfl hP hD hS (Nat.le_of_ble_eq_true rfl) (Nat.le_of_ble_eq_true rfl) hp
  have B_49 : ∀ (n_49 : Nat) (x1 : Int32) (x2 : Int32) (x3 : Int32) (x4 : Int32) (σ : Mem) (H : Heap) (locs : List Loc) (ls : Array Slot), va_P D vwCl (WM k ad g (σ)) H → va_D A (WM k ad g (σ)) → va_S A s.heap H locs → lv_has ls 6 [(0, .ref (ad 0)), (1, .int x1), (2, .int x2), (3, .int x3), (4, .int x4)] → lp_5 (q_X8_wave_49 (g 0) (g 2) post (q_X8_wave_151 (g 0) (g 2) post)) n_49 x1 x2 x3 x4 σ → W p l e rm_X8_wave s m args below meth c H locs 0 0 Q (F0 m 49 ls []) := by
    intro n_49
    induction n_49 with
    | zero => intro x1 x2 x3 x4 σ H locs ls hP hD hS hl hp; exact hp.elim
    | succ n_49 ih_49 =>
      have B_145 : ∀ (x1 : Int32) (x2 : Int32) (x3 : Int32) (x4 : Int32) (σ : Mem) (H : Heap) (locs : List Loc) (ls : Array Slot), va_P D vwCl (WM k ad g (σ)) H → va_D A (WM k ad g (σ)) → va_S A s.heap H locs → lv_has ls 6 [(0, .ref (ad 0)), (1, .int x1), (2, .int x2), (3, .int x3), (4, .int x4)] → (q_X8_wave_145 (g 0) (g 2) post (q_X8_wave_151 (g 0) (g 2) post) (lp_5 (q_X8_wave_49 (g 0) (g 2) post (q_X8_wave_151 (g 0) (g 2) post)) n_49)) x1 x2 x3 x4 σ → W p l e rm_X8_wave s m args below meth c H locs 0 0 Q (F0 m 145 ls []) := by
        intro x1 x2 x3 x4 σ H locs ls hP hD hS hl hp
        unfold q_X8_wave_145 at hp
        obtain ⟨v50001, ev50001⟩ : ∃ z : Int32, z = x4 + 1 := ⟨_, rfl⟩
        have hp := hp v50001 ev50001
        refine lv_iinc (v := v50001) (lv' := [(4, .int v50001), (0, .ref (ad 0)), (1, .int x1), (2, .int x2), (3, .int x3)]) hx hb dX8_wave_145 hl (k := 4) rfl (by rw [ev50001]; rfl) (by decide) rfl (fun ls hl => ?_)
        refine lv_goto (tgt := 49) hx hb dX8_wave_148 (by decide) ?_
        exact ih_49 x1 x2 x3 v50001 (σ) _ _ _  hP hD hS (lv_sub hl [1, 2, 3, 4, 0] rfl) hp
      have B_107 : ∀ (n_107 : Nat) (x1 : Int32) (x2 : Int32) (x3 : Int32) (x4 : Int32) (x5 : Int32) (σ : Mem) (H : Heap) (locs : List Loc) (ls : Array Slot), va_P D vwCl (WM k ad g (σ)) H → va_D A (WM k ad g (σ)) → va_S A s.heap H locs → lv_has ls 6 [(0, .ref (ad 0)), (1, .int x1), (2, .int x2), (3, .int x3), (4, .int x4), (5, .int x5)] → lp_6 (q_X8_wave_107 (g 0) (g 2) post (q_X8_wave_145 (g 0) (g 2) post (q_X8_wave_151 (g 0) (g 2) post) (lp_5 (q_X8_wave_49 (g 0) (g 2) post (q_X8_wave_151 (g 0) (g 2) post)) n_49))) n_107 x1 x2 x3 x4 x5 σ → W p l e rm_X8_wave s m args below meth c H locs 0 0 Q (F0 m 107 ls []) := by
        intro n_107
        induction n_107 with
        | zero => intro x1 x2 x3 x4 x5 σ H locs ls hP hD hS hl hp; exact hp.elim
        | succ n_107 ih_107 =>
          intro x1 x2 x3 x4 x5 σ H locs ls hP hD hS hl hp
          have hp : q_X8_wave_107 (g 0) (g 2) post (q_X8_wave_145 (g 0) (g 2) post (q_X8_wave_151 (g 0) (g 2) post) (lp_5 (q_X8_wave_49 (g 0) (g 2) post (q_X8_wave_151 (g 0) (g 2) post)) n_49)) (lp_6 (q_X8_wave_107 (g 0) (g 2) post (q_X8_wave_145 (g 0) (g 2) post (q_X8_wave_151 (g 0) (g 2) post) (lp_5 (q_X8_wave_49 (g 0) (g 2) post (q_X8_wave_151 (g 0) (g 2) post)) n_49))) n_107) x1 x2 x3 x4 x5 σ := hp
          unfold q_X8_wave_107 at hp
          refine lv_iload hx hb dX8_wave_107 (lv_at hl 5 rfl) ?_
          refine lv_iconst (v := 5) hx hb dX8_wave_109 (by decide) ?_
          refine lv_icmp_ge (tgt := 145) hx hb dX8_wave_110 (by decide) (fun c40001 => ?_) (fun c40001 => ?_)
          · have hp := hp.1 c40001
            exact B_145 x1 x2 x3 x4 (σ) _ _ _  hP hD hS (lv_sub hl [0, 1, 2, 3, 4] rfl) hp
          · have hp := hp.2 c40001
            refine lv_aload_n hx hb dX8_wave_113 rfl (lv_at hl 0 rfl) ?_
            refine va_get (D := D) (ci := 12) (C := RX8) (T := TX8) (N := 15) hx hb hts hin_X8 hown hK hP 0 rfl rfl 7 (by decide) hf_29 (fun _ h9 => h9) rfl dX8_wave_114 ?_
            refine lv_iload hx hb dX8_wave_117 (lv_at hl 4 rfl) ?_
            refine lv_iconst (v := 5) hx hb dX8_wave_119 (by decide) ?_
            refine lv_imul hx hb dX8_wave_120 ?_
            refine lv_iload hx hb dX8_wave_121 (lv_at hl 5 rfl) ?_
            refine lv_iadd hx hb dX8_wave_123 ?_
            refine lv_aload_n hx hb dX8_wave_124 rfl (lv_at hl 0 rfl) ?_
            refine va_get (D := D) (ci := 12) (C := RX8) (T := TX8) (N := 15) hx hb hts hin_X8 hown hK hP 0 rfl rfl 5 (by decide) hf_23 (fun _ h9 => h9) rfl dX8_wave_125 ?_
            refine lv_iload_n hx hb dX8_wave_128 rfl (lv_at hl 1 rfl) ?_
            obtain ⟨j40002, ⟨hj40002, ej40002⟩, hp⟩ := hp
            refine wm_get_commit (rest := [.int ((x4 * 5) + x5), .ref (ad 6)]) hC hg hj40002 ej40002 (gA_V (a := Cond.code yX8_wave cX8_wave 6 (some .int)) A_621 A_622 A_623 A_583 A_613) hl.1 rfl (Nat.le_of_ble_eq_true rfl) (Nat.le_of_ble_eq_true rfl) (Nat.le_of_ble_eq_true rfl) dX8_wave_129 ⟨Nat.le_of_ble_eq_true rfl, Nat.le_of_ble_eq_true rfl⟩ hP hD hS (fun H locs hP hD hS => ?_)
            refine va_castA hx hb hown (hts _ (List.mem_cons_of_mem _ A_783)) hP (cmP g j40002) (WM_cm k ad g (σ) hj40002) hG.2.1.1 dX8_wave_132 ?_
            refine lv_iload hx hb dX8_wave_135 (lv_at hl 5 rfl) ?_
            obtain ⟨h40003, hp⟩ := hp
            refine va_iald hx hb hK hP (cmP g j40002) 0 (WM_cm k ad g (σ) hj40002) rfl h40003 dX8_wave_137 ?_
            obtain ⟨h40004, hp⟩ := hp
            refine va_iast hx hb hK hP hD hS 6 0 rfl rfl h40004 dX8_wave_138 (fun H locs hP hD hS => ?_)
            obtain ⟨σ40005, eσ40005⟩ : ∃ z : Mem, z = mst (σ) 6 (((x4 * 5) + x5).toNatClampNeg) ((σ) (200 + j40002) x5.toNatClampNeg) := ⟨_, rfl⟩
            have hp := hp σ40005 eσ40005
            have hP : va_P D vwCl (WM k ad g (σ40005)) H := by rw [eσ40005, WM_s (by decide)]; exact hP
            have hD : va_D A (WM k ad g (σ40005)) := by rw [eσ40005, WM_s (by decide)]; exact hD
            obtain ⟨v40006, ev40006⟩ : ∃ z : Int32, z = x5 + 1 := ⟨_, rfl⟩
            have hp := hp v40006 ev40006
            refine lv_iinc (v := v40006) (lv' := [(5, .int v40006), (0, .ref (ad 0)), (1, .int x1), (2, .int x2), (3, .int x3), (4, .int x4)]) hx hb dX8_wave_139 hl (k := 5) rfl (by rw [ev40006]; rfl) (by decide) rfl (fun ls hl => ?_)
            refine lv_goto (tgt := 107) hx hb dX8_wave_142 (by decide) ?_
            exact ih_107 x1 x2 x3 x4 v40006 (σ40005) _ _ _  hP hD hS (lv_sub hl [1, 2, 3, 4, 5, 0] rfl) hp
      have B_94 : ∀ (s0 : Int32) (s1 : Int32) (x1 : Int32) (x2 : Int32) (x4 : Int32) (σ : Mem) (H : Heap) (locs : List Loc) (ls : Array Slot), va_P D vwCl (WM k ad g (σ)) H → va_D A (WM k ad g (σ)) → va_S A s.heap H locs → lv_has ls 6 [(0, .ref (ad 0)), (1, .int x1), (2, .int x2), (4, .int x4)] → (q_X8_wave_94 (g 0) (g 2) post (q_X8_wave_151 (g 0) (g 2) post) (lp_5 (q_X8_wave_49 (g 0) (g 2) post (q_X8_wave_151 (g 0) (g 2) post)) n_49)) s0 s1 x1 x2 x4 σ → W p l e rm_X8_wave s m args below meth c H locs 0 0 Q (F0 m 94 ls [.int s0, .int s1]) := by
        intro s0 s1 x1 x2 x4 σ H locs ls hP hD hS hl hp
        unfold q_X8_wave_94 at hp
        refine lv_iadd hx hb dX8_wave_94 ?_
        refine lv_topi (fun v30001 ev30001 => ?_)
        have hp := hp v30001 ev30001
        refine lv_istore_n (lv' := [(3, .int v30001), (0, .ref (ad 0)), (1, .int x1), (2, .int x2), (4, .int x4)]) hx hb dX8_wave_95 rfl hl (by decide) rfl (fun ls hl => ?_)
        refine lv_aload_n hx hb dX8_wave_96 rfl (lv_at hl 1 rfl) ?_
        refine va_get (D := D) (ci := 12) (C := RX8) (T := TX8) (N := 15) hx hb hts hin_X8 hown hK hP 0 rfl rfl 6 (by decide) hf_26 (fun _ h9 => h9) rfl dX8_wave_97 ?_
        refine lv_iload hx hb dX8_wave_100 (lv_at hl 4 rfl) ?_
        refine lv_iload_n hx hb dX8_wave_102 rfl (lv_at hl 2 rfl) ?_
        obtain ⟨h30002, hp⟩ := hp
        refine va_iast hx hb hK hP hD hS 5 0 rfl rfl h30002 dX8_wave_103 (fun H locs hP hD hS => ?_)
        obtain ⟨σ30003, eσ30003⟩ : ∃ z : Mem, z = mst (σ) 5 x4.toNatClampNeg x1 := ⟨_, rfl⟩
        have hp := hp σ30003 eσ30003
        have hP : va_P D vwCl (WM k ad g (σ30003)) H := by rw [eσ30003, WM_s (by decide)]; exact hP
        have hD : va_D A (WM k ad g (σ30003)) := by rw [eσ30003, WM_s (by decide)]; exact hD
        refine lv_iconst (v := 0) hx hb dX8_wave_104 (by decide) ?_
        refine lv_istore (lv' := [(5, .int 0), (3, .int v30001), (0, .ref (ad 0)), (1, .int x1), (2, .int x2), (4, .int x4)]) hx hb dX8_wave_105 hl (by decide) rfl (fun ls hl => ?_)
        obtain ⟨n9, hp⟩ := hp
        exact B_107 n9 x1 x2 v30001 x4 0 (σ30003) _ _ _  hP hD hS (lv_sub hl [2, 3, 4, 1, 5, 0] rfl) hp
      have B_89 : ∀ (s0 : Int32) (x1 : Int32) (x2 : Int32) (x4 : Int32) (σ : Mem) (H : Heap) (locs : List Loc) (ls : Array Slot), va_P D vwCl (WM k ad g (σ)) H → va_D A (WM k ad g (σ)) → va_S A s.heap H locs → lv_has ls 6 [(0, .ref (ad 0)), (1, .int x1), (2, .int x2), (4, .int x4)] → (q_X8_wave_89 (g 0) (g 2) post (q_X8_wave_151 (g 0) (g 2) post) (lp_5 (q_X8_wave_49 (g 0) (g 2) post (q_X8_wave_151 (g 0) (g 2) post)) n_49)) s0 x1 x2 x4 σ → W p l e rm_X8_wave s m args below meth c H locs 0 0 Q (F0 m 89 ls [.int s0]) := by
        intro s0 x1 x2 x4 σ H locs ls hP hD hS hl hp
        unfold q_X8_wave_89 at hp
        refine lv_iconst (v := 1) hx hb dX8_wave_89 (by decide) ?_
        refine lv_goto (tgt := 94) hx hb dX8_wave_90 (by decide) ?_
        exact B_94 1 s0 x1 x2 x4 (σ) _ _ _  hP hD hS (lv_sub hl [0, 1, 2, 3] rfl) hp
      intro x1 x2 x3 x4 σ H locs ls hP hD hS hl hp
      have hp : q_X8_wave_49 (g 0) (g 2) post (q_X8_wave_151 (g 0) (g 2) post) (lp_5 (q_X8_wave_49 (g 0) (g 2) post (q_X8_wave_151 (g 0) (g 2) post)) n_49) x1 x2 x3 x4 σ := hp
      unfold q_X8_wave_49 at hp
      refine lv_iload hx hb dX8_wave_49 (lv_at hl 4 rfl) ?_
      refine lv_bipush (v := 6) hx hb dX8_wave_51 (by decide) ?_
      refine lv_icmp_ge (tgt := 151) hx hb dX8_wave_53 (by decide) (fun c10001 => ?_) (fun c10001 => ?_)
      · have hp := hp.1 c10001
        exact B_151 x3 (σ) _ _ _  hP hD hS (lv_sub hl [3] rfl) hp
      · have hp := hp.2 c10001
        refine lv_iload_n hx hb dX8_wave_56 rfl (lv_at hl 2 rfl) ?_
        refine lv_iload hx hb dX8_wave_57 (lv_at hl 4 rfl) ?_
        refine lv_ishr hx hb dX8_wave_59 ?_
        refine lv_iconst (v := 1) hx hb dX8_wave_60 (by decide) ?_
        refine lv_iand hx hb dX8_wave_61 ?_
        refine lv_if_ne (tgt := 68) hx hb dX8_wave_62 (by decide) (fun c10002 => ?_) (fun c10002 => ?_)
        · have hp := hp.1 c10002
          refine lv_iload_n hx hb dX8_wave_68 rfl (lv_at hl 3 rfl) ?_
          refine lv_aload_n hx hb dX8_wave_69 rfl (lv_at hl 0 rfl) ?_
          refine va_get (D := D) (ci := 12) (C := RX8) (T := TX8) (N := 15) hx hb hts hin_X8 hown hK hP 0 rfl rfl 6 (by decide) hf_26 (fun _ h9 => h9) rfl dX8_wave_70 ?_
          refine lv_iload hx hb dX8_wave_73 (lv_at hl 4 rfl) ?_
          obtain ⟨h10003, hp⟩ := hp
          refine va_iald hx hb hK hP 5 0 rfl rfl h10003 dX8_wave_75 ?_
          refine lv_iload_n hx hb dX8_wave_76 rfl (lv_at hl 1 rfl) ?_
          refine lv_icmp_ne (tgt := 89) hx hb dX8_wave_77 (by decide) (fun c10004 => ?_) (fun c10004 => ?_)
          · have hp := hp.1 c10004
            exact B_89 x3 x1 x2 x4 (σ) _ _ _  hP hD hS (lv_sub hl [0, 1, 2, 4] rfl) hp
          · have hp := hp.2 c10004
            refine lv_aload_n hx hb dX8_wave_80 rfl (lv_at hl 0 rfl) ?_
            refine lv_iload hx hb dX8_wave_81 (lv_at hl 4 rfl) ?_
            refine fw_ciV (As := [.int x4]) (rest := [.int x3]) hC (c_X8_drifting l D k ad g hg hp) (cwV 1 hts (gA_V A_788 A_789 A_790 A_601 A_787) rfl rfl rfl (by decide +kernel) ⟨Nat.le_of_ble_eq_true rfl, Nat.le_of_ble_eq_true rfl⟩) (va_recv hK hP (ci := 12) (q0 := 0) rfl rfl) rfl hl.1 rfl (Nat.le_of_ble_eq_true rfl) dX8_wave_83 ⟨Nat.le_of_ble_eq_true rfl, Nat.le_of_ble_eq_true rfl⟩ hP hD hS Jn.same (fun r10005 σ10006 H locs hP hD hS hp => ?_)
            have hP : va_P D vwCl (WM k ad g (σ10006)) H := hP
            have hD : va_D A (WM k ad g (σ10006)) := hD
            refine lv_if_eq (tgt := 93) hx hb dX8_wave_86 (by decide) (fun c10007 => ?_) (fun c10007 => ?_)
            · have hp := hp.1 c10007
              refine lv_iconst (v := 0) hx hb dX8_wave_93 (by decide) ?_
              exact B_94 0 x3 x1 x2 x4 (σ10006) _ _ _  hP hD hS (lv_sub hl [0, 1, 2, 4] rfl) hp
            · have hp := hp.2 c10007
              exact B_89 x3 x1 x2 x4 (σ10006) _ _ _  hP hD hS (lv_sub hl [0, 1, 2, 4] rfl) hp
        · have hp := hp.2 c10002
          refine lv_goto (tgt := 145) hx hb dX8_wave_65 (by decide) ?_
          exact B_145 x1 x2 x3 x4 (σ) _ _ _  hP hD hS (lv_sub hl [0, 1, 2, 3, 4] rfl) hp
  refine lv_aload_n hx hb dX8_wave_0 rfl (lv_at hl 0 rfl) ?_
  refine lv_iconst (v := 0) hx hb dX8_wave_1 (by decide) ?_
  refine va_put (D := D) (ci := 12) (v := .int 0) (ty := .int) (C := RX8) (T := TX8) (N := 15) hx hb hts hin_X8 tyX8 tyX8_ok nmX8 hown hK hP hD hS 0 rfl rfl 0 (by decide) hf_41 (fun _ h9 => h9) rfl (by decide +kernel) rfl rfl (Nat.le_of_ble_eq_true rfl) dX8_wave_2 (fun H locs hP hD hS => ?_)
  obtain ⟨σ1, eσ1⟩ : ∃ z : Mem, z = mst (σ) 0 0 0 := ⟨_, rfl⟩
  have hp := hp σ1 eσ1
  have hP : va_P D vwCl (WM k ad g (σ1)) H := by rw [eσ1, WM_s (by decide)]; exact hP
  have hD : va_D A (WM k ad g (σ1)) := by rw [eσ1, WM_s (by decide)]; exact hD
  refine lv_iload_n hx hb dX8_wave_5 rfl (lv_at hl 1 rfl) ?_
  refine lv_iconst (v := 0) hx hb dX8_wave_6 (by decide) ?_
  refine lv_aload_n hx hb dX8_wave_7 rfl (lv_at hl 0 rfl) ?_
  refine va_get (D := D) (ci := 12) (C := RX8) (T := TX8) (N := 15) hx hb hts hin_X8 hown hK hP 0 rfl rfl 5 (by decide) hf_23 (fun _ h9 => h9) rfl dX8_wave_8 ?_
  refine wm_size_commit (rest := [.int 0, .int p1]) hC (gA_V (a := Cond.code yX8_wave cX8_wave 6 (some .int)) A_605 A_606 A_607 A_583 A_602) hl.1 rfl (Nat.le_of_ble_eq_true rfl) (Nat.le_of_ble_eq_true rfl) (Nat.le_of_ble_eq_true rfl) dX8_wave_11 ⟨Nat.le_of_ble_eq_true rfl, Nat.le_of_ble_eq_true rfl⟩ hP hD hS (fun H locs hP hD hS => ?_)
  refine lv_iconst (v := 1) hx hb dX8_wave_14 (by decide) ?_
  refine lv_isub hx hb dX8_wave_15 ?_
  refine fw_ciS (As := [.int p1, .int 0, .int ((nI (g 2)) - 1)]) (rest := []) hC (c_X8_is l D k hp) (va_cwS 3 hts (gA_S A_599 A_600 A_601 A_596) rfl rfl rfl (by decide +kernel) ⟨Nat.le_of_ble_eq_true rfl, Nat.le_of_ble_eq_true rfl⟩) rfl hl.1 rfl (Nat.le_of_ble_eq_true rfl) dX8_wave_16 ⟨Nat.le_of_ble_eq_true rfl, Nat.le_of_ble_eq_true rfl⟩ P_nil D_nil hS (Jn.pure (w0 := fun _ : Mem => []) hP hD) (fun r2 σ3 H locs hP hD hS hp => ?_)
  have hP : va_P D vwCl (WM k ad g (σ1)) H := hP
  have hD : va_D A (WM k ad g (σ1)) := hD
  refine lv_if_ne (tgt := 28) hx hb dX8_wave_19 (by decide) (fun c4 => ?_) (fun c4 => ?_)
  · have hp := hp.1 c4
    refine lv_iload_n hx hb dX8_wave_28 rfl (lv_at hl 2 rfl) ?_
    refine lv_iconst (v := 0) hx hb dX8_wave_29 (by decide) ?_
    refine lv_bipush (v := 63) hx hb dX8_wave_30 (by decide) ?_
    refine fw_ciS (As := [.int p2, .int 0, .int 63]) (rest := []) hC (c_X8_is l D k hp) (va_cwS 3 hts (gA_S A_599 A_600 A_601 A_596) rfl rfl rfl (by decide +kernel) ⟨Nat.le_of_ble_eq_true rfl, Nat.le_of_ble_eq_true rfl⟩) rfl hl.1 rfl (Nat.le_of_ble_eq_true rfl) dX8_wave_32 ⟨Nat.le_of_ble_eq_true rfl, Nat.le_of_ble_eq_true rfl⟩ P_nil D_nil hS (Jn.pure (w0 := fun _ : Mem => []) hP hD) (fun r5 σ6 H locs hP hD hS hp => ?_)
    have hP : va_P D vwCl (WM k ad g (σ1)) H := hP
    have hD : va_D A (WM k ad g (σ1)) := hD
    refine lv_if_ne (tgt := 44) hx hb dX8_wave_35 (by decide) (fun c7 => ?_) (fun c7 => ?_)
    · have hp := hp.1 c7
      refine lv_iconst (v := 0) hx hb dX8_wave_44 (by decide) ?_
      refine lv_istore_n (lv' := [(3, .int 0), (0, .ref (ad 0)), (1, .int p1), (2, .int p2)]) hx hb dX8_wave_45 rfl hl (by decide) rfl (fun ls hl => ?_)
      refine lv_iconst (v := 0) hx hb dX8_wave_46 (by decide) ?_
      refine lv_istore (lv' := [(4, .int 0), (3, .int 0), (0, .ref (ad 0)), (1, .int p1), (2, .int p2)]) hx hb dX8_wave_47 hl (by decide) rfl (fun ls hl => ?_)
      obtain ⟨n9, hp⟩ := hp
      exact B_49 n9 p1 p2 0 0 (σ1) _ _ _  hP hD hS (lv_sub hl [2, 3, 4, 1, 0] rfl) hp
    · have hp := hp.2 c7
      refine lv_aload_n hx hb dX8_wave_38 rfl (lv_at hl 0 rfl) ?_
      refine lv_iconst (v := 2) hx hb dX8_wave_39 (by decide) ?_
      refine fw_ciV (As := [.int 2]) (rest := []) hC (c_X8_refuse l D k ad g hg hp) (cwV 1 hts (gA_V A_629 A_630 A_631 A_601 A_594) rfl rfl rfl (by decide +kernel) ⟨Nat.le_of_ble_eq_true rfl, Nat.le_of_ble_eq_true rfl⟩) (va_recv hK hP (ci := 12) (q0 := 0) rfl rfl) rfl hl.1 rfl (Nat.le_of_ble_eq_true rfl) dX8_wave_40 ⟨Nat.le_of_ble_eq_true rfl, Nat.le_of_ble_eq_true rfl⟩ hP hD hS Jn.same (fun r8 σ9 H locs hP hD hS hp => ?_)
      have hP : va_P D vwCl (WM k ad g (σ9)) H := hP
      have hD : va_D A (WM k ad g (σ9)) := hD
      exact hret r8 (σ9) _ _ _ _ _ _ dX8_wave_43 rfl hP hD hS (Nat.le_of_ble_eq_true rfl) (Nat.le_of_ble_eq_true rfl) hp
  · have hp := hp.2 c4
    refine lv_aload_n hx hb dX8_wave_22 rfl (lv_at hl 0 rfl) ?_
    refine lv_iconst (v := 1) hx hb dX8_wave_23 (by decide) ?_
    refine fw_ciV (As := [.int 1]) (rest := []) hC (c_X8_refuse l D k ad g hg hp) (cwV 1 hts (gA_V A_629 A_630 A_631 A_601 A_594) rfl rfl rfl (by decide +kernel) ⟨Nat.le_of_ble_eq_true rfl, Nat.le_of_ble_eq_true rfl⟩) (va_recv hK hP (ci := 12) (q0 := 0) rfl rfl) rfl hl.1 rfl (Nat.le_of_ble_eq_true rfl) dX8_wave_24 ⟨Nat.le_of_ble_eq_true rfl, Nat.le_of_ble_eq_true rfl⟩ hP hD hS Jn.same (fun r10 σ11 H locs hP hD hS hp => ?_)
    have hP : va_P D vwCl (WM k ad g (σ11)) H := hP
    have hD : va_D A (WM k ad g (σ11)) := hD
    exact hret r10 (σ11) _ _ _ _ _ _ dX8_wave_27 rfl hP hD hS (Nat.le_of_ble_eq_true rfl) (Nat.le_of_ble_eq_true rfl) hp
def q_X8_patch_20 (n : Nat) (c : Nat) (post : Int32 → Mem → Prop)  (σ : Mem) : Prop := (q_X8_refuse n c (fun (r1001 : Int32) (σ1002 : Mem) => post r1001 (σ1002)) 1 (σ))
def q_X8_patch (n : Nat) (c : Nat) (post : Int32 → Mem → Prop) (p1 : Int32) (p2 : Int32) (p3 : Int32) (σ : Mem) : Prop := (∀ σ1 : Mem, σ1 = mst (σ) 0 0 0 → (q_X8_isMachine (fun (r2 : Int32) (σ3 : Mem) => ((r2 = 0 → (q_X8_patch_20 n c post) (σ1)) ∧ (¬ (r2 = 0) → (q_X8_isField n c (fun (r5 : Int32) (σ6 : Mem) => ((r5 ≠ 0 → (q_X8_is (fun (r8 : Int32) (σ9 : Mem) => ((r8 ≠ 0 → (vp_in ((p1 * 5) + p2) 30 ∧ (∀ v12 : Int32, v12 = ((σ6) 6 (((p1 * 5) + p2).toNatClampNeg)) → (vp_in ((p1 * 5) + p2) 30 ∧ (∀ σ14 : Mem, σ14 = mst (σ6) 6 (((p1 * 5) + p2).toNatClampNeg) p3 → post v12 (σ14)))))) ∧ (r8 = 0 → (q_X8_refuse n c (fun (r15 : Int32) (σ16 : Mem) => post r15 (σ16)) 2 (σ6))))) p3 0 7 (σ6))) ∧ (r5 = 0 → (q_X8_patch_20 n c post) (σ6)))) p2 (σ1))))) p1 (σ1)))
abbrev rm_X8_patch : Room := { frames := 2, cells := 0, slots := 0, locals := 43 }
abbrev wq_X8_patch : List Cond := Cond.code yX8_patch cX8_patch 5 (some .int) :: wALL
set_option maxHeartbeats 4000000 in
set_option maxRecDepth 100000 in
theorem c_X8_patch (l : Launch) (D : va_G) (k ad g : Nat → Nat) (hg : gok g) {sz : Nat} {σ : Mem} {p1 : Int32} {p2 : Int32} {p3 : Int32} {post : Int32 → Mem → Prop} (hp : q_X8_patch (g 0) (g 2) post p1 p2 p3 σ) : Met l yX8_patch wq_X8_patch rm_X8_patch (va_Pc [.ref (ad 0), .int p1, .int p2, .int p3] (Pw D k (WM k ad g (σ)) sz)) (va_Qi post (fun u => Bw D (WM k ad g (σ)) sz (WM k ad g u)) (va_A (WM k ad g (σ)) sz)) 0 0 (va_A (WM k ad g (σ)) sz) := by
  refine fw_i (wf := fun u : Mem => WM k ad g u) (by decide) rfl (Nat.le_of_ble_eq_true rfl) ?_
  intro p e s m args below meth c A Q ls hC hP hD hl hret
  obtain ⟨⟨hx, hb, hml, hown, hts⟩, hG, hA⟩ := id hC
  have hK := hG.1
  have hS : va_S A s.heap s.heap [] := va_S.rf
  have hin_X8 : ∀ w ∈ u_ws RX8 TX8 15, w ∈ wq_X8_patch := fun w h => List.mem_cons_of_mem _ (iU_X8 w h)
  have hf_41 := hts _ (List.mem_cons_of_mem _ A_595)
  have hf_29 := hts _ (List.mem_cons_of_mem _ A_587)
  have hl : lv_has ls 5 [(0, .ref (ad 0)), (1, .int p1), (2, .int p2), (3, .int p3)] := hl
  have hown : s.vm.findClass RX8 = some m.cls := hown
  unfold q_X8_patch at hp
  have B_20 : ∀  (σ : Mem) (H : Heap) (locs : List Loc) (ls : Array Slot), va_P D vwCl (WM k ad g (σ)) H → va_D A (WM k ad g (σ)) → va_S A s.heap H locs → lv_has ls 5 [(0, .ref (ad 0))] → (q_X8_patch_20 (g 0) (g 2) post)  σ → W p l e rm_X8_patch s m args below meth c H locs 0 0 Q (F0 m 20 ls []) := by
    intro  σ H locs ls hP hD hS hl hp
    unfold q_X8_patch_20 at hp
    refine lv_aload_n hx hb dX8_patch_20 rfl (lv_at hl 0 rfl) ?_
    refine lv_iconst (v := 1) hx hb dX8_patch_21 (by decide) ?_
    refine fw_ciV (As := [.int 1]) (rest := []) hC (c_X8_refuse l D k ad g hg hp) (cwV 1 hts (gA_V A_629 A_630 A_631 A_601 A_594) rfl rfl rfl (by decide +kernel) ⟨Nat.le_of_ble_eq_true rfl, Nat.le_of_ble_eq_true rfl⟩) (va_recv hK hP (ci := 12) (q0 := 0) rfl rfl) rfl hl.1 rfl (Nat.le_of_ble_eq_true rfl) dX8_patch_22 ⟨Nat.le_of_ble_eq_true rfl, Nat.le_of_ble_eq_true rfl⟩ hP hD hS Jn.same (fun r10001 σ10002 H locs hP hD hS hp => ?_)
    have hP : va_P D vwCl (WM k ad g (σ10002)) H := hP
    have hD : va_D A (WM k ad g (σ10002)) := hD
    exact hret r10001 (σ10002) _ _ _ _ _ _ dX8_patch_25 rfl hP hD hS (Nat.le_of_ble_eq_true rfl) (Nat.le_of_ble_eq_true rfl) hp
  refine lv_aload_n hx hb dX8_patch_0 rfl (lv_at hl 0 rfl) ?_
  refine lv_iconst (v := 0) hx hb dX8_patch_1 (by decide) ?_
  refine va_put (D := D) (ci := 12) (v := .int 0) (ty := .int) (C := RX8) (T := TX8) (N := 15) hx hb hts hin_X8 tyX8 tyX8_ok nmX8 hown hK hP hD hS 0 rfl rfl 0 (by decide) hf_41 (fun _ h9 => h9) rfl (by decide +kernel) rfl rfl (Nat.le_of_ble_eq_true rfl) dX8_patch_2 (fun H locs hP hD hS => ?_)
  obtain ⟨σ1, eσ1⟩ : ∃ z : Mem, z = mst (σ) 0 0 0 := ⟨_, rfl⟩
  have hp := hp σ1 eσ1
  have hP : va_P D vwCl (WM k ad g (σ1)) H := by rw [eσ1, WM_s (by decide)]; exact hP
  have hD : va_D A (WM k ad g (σ1)) := by rw [eσ1, WM_s (by decide)]; exact hD
  refine lv_iload_n hx hb dX8_patch_5 rfl (lv_at hl 1 rfl) ?_
  refine fw_ciS (As := [.int p1]) (rest := []) hC (c_X8_isMachine l D k hp) (va_cwS 1 hts (gA_S A_793 A_794 A_601 A_608) rfl rfl rfl (by decide +kernel) ⟨Nat.le_of_ble_eq_true rfl, Nat.le_of_ble_eq_true rfl⟩) rfl hl.1 rfl (Nat.le_of_ble_eq_true rfl) dX8_patch_6 ⟨Nat.le_of_ble_eq_true rfl, Nat.le_of_ble_eq_true rfl⟩ P_nil D_nil hS (Jn.pure (w0 := fun _ : Mem => []) hP hD) (fun r2 σ3 H locs hP hD hS hp => ?_)
  have hP : va_P D vwCl (WM k ad g (σ1)) H := hP
  have hD : va_D A (WM k ad g (σ1)) := hD
  refine lv_if_eq (tgt := 20) hx hb dX8_patch_9 (by decide) (fun c4 => ?_) (fun c4 => ?_)
  · have hp := hp.1 c4
    exact B_20  (σ1) _ _ _  hP hD hS (lv_sub hl [0] rfl) hp
  · have hp := hp.2 c4
    refine lv_aload_n hx hb dX8_patch_12 rfl (lv_at hl 0 rfl) ?_
    refine lv_iload_n hx hb dX8_patch_13 rfl (lv_at hl 2 rfl) ?_
    refine fw_ciV (As := [.int p2]) (rest := []) hC (c_X8_isField l D k ad g hg hp) (cwV 1 hts (gA_V A_665 A_666 A_667 A_601 A_597) rfl rfl rfl (by decide +kernel) ⟨Nat.le_of_ble_eq_true rfl, Nat.le_of_ble_eq_true rfl⟩) (va_recv hK hP (ci := 12) (q0 := 0) rfl rfl) rfl hl.1 rfl (Nat.le_of_ble_eq_true rfl) dX8_patch_14 ⟨Nat.le_of_ble_eq_true rfl, Nat.le_of_ble_eq_true rfl⟩ hP hD hS Jn.same (fun r5 σ6 H locs hP hD hS hp => ?_)
    have hP : va_P D vwCl (WM k ad g (σ6)) H := hP
    have hD : va_D A (WM k ad g (σ6)) := hD
    refine lv_if_ne (tgt := 26) hx hb dX8_patch_17 (by decide) (fun c7 => ?_) (fun c7 => ?_)
    · have hp := hp.1 c7
      refine lv_iload_n hx hb dX8_patch_26 rfl (lv_at hl 3 rfl) ?_
      refine lv_iconst (v := 0) hx hb dX8_patch_27 (by decide) ?_
      refine lv_bipush (v := 7) hx hb dX8_patch_28 (by decide) ?_
      refine fw_ciS (As := [.int p3, .int 0, .int 7]) (rest := []) hC (c_X8_is l D k hp) (va_cwS 3 hts (gA_S A_599 A_600 A_601 A_596) rfl rfl rfl (by decide +kernel) ⟨Nat.le_of_ble_eq_true rfl, Nat.le_of_ble_eq_true rfl⟩) rfl hl.1 rfl (Nat.le_of_ble_eq_true rfl) dX8_patch_30 ⟨Nat.le_of_ble_eq_true rfl, Nat.le_of_ble_eq_true rfl⟩ P_nil D_nil hS (Jn.pure (w0 := fun _ : Mem => []) hP hD) (fun r8 σ9 H locs hP hD hS hp => ?_)
      have hP : va_P D vwCl (WM k ad g (σ6)) H := hP
      have hD : va_D A (WM k ad g (σ6)) := hD
      refine lv_if_ne (tgt := 42) hx hb dX8_patch_33 (by decide) (fun c10 => ?_) (fun c10 => ?_)
      · have hp := hp.1 c10
        refine lv_aload_n hx hb dX8_patch_42 rfl (lv_at hl 0 rfl) ?_
        refine va_get (D := D) (ci := 12) (C := RX8) (T := TX8) (N := 15) hx hb hts hin_X8 hown hK hP 0 rfl rfl 7 (by decide) hf_29 (fun _ h9 => h9) rfl dX8_patch_43 ?_
        refine lv_iload_n hx hb dX8_patch_46 rfl (lv_at hl 1 rfl) ?_
        refine lv_iconst (v := 5) hx hb dX8_patch_47 (by decide) ?_
        refine lv_imul hx hb dX8_patch_48 ?_
        refine lv_iload_n hx hb dX8_patch_49 rfl (lv_at hl 2 rfl) ?_
        refine lv_iadd hx hb dX8_patch_50 ?_
        obtain ⟨h11, hp⟩ := hp
        refine va_iald hx hb hK hP 6 0 rfl rfl h11 dX8_patch_51 ?_
        refine lv_topi (fun v12 ev12 => ?_)
        have hp := hp v12 ev12
        refine lv_istore (lv' := [(4, .int v12), (0, .ref (ad 0)), (1, .int p1), (2, .int p2), (3, .int p3)]) hx hb dX8_patch_52 hl (by decide) rfl (fun ls hl => ?_)
        refine lv_aload_n hx hb dX8_patch_54 rfl (lv_at hl 1 rfl) ?_
        refine va_get (D := D) (ci := 12) (C := RX8) (T := TX8) (N := 15) hx hb hts hin_X8 hown hK hP 0 rfl rfl 7 (by decide) hf_29 (fun _ h9 => h9) rfl dX8_patch_55 ?_
        refine lv_iload_n hx hb dX8_patch_58 rfl (lv_at hl 2 rfl) ?_
        refine lv_iconst (v := 5) hx hb dX8_patch_59 (by decide) ?_
        refine lv_imul hx hb dX8_patch_60 ?_
        refine lv_iload_n hx hb dX8_patch_61 rfl (lv_at hl 3 rfl) ?_
        refine lv_iadd hx hb dX8_patch_62 ?_
        refine lv_iload_n hx hb dX8_patch_63 rfl (lv_at hl 4 rfl) ?_
        obtain ⟨h13, hp⟩ := hp
        refine va_iast hx hb hK hP hD hS 6 0 rfl rfl h13 dX8_patch_64 (fun H locs hP hD hS => ?_)
        obtain ⟨σ14, eσ14⟩ : ∃ z : Mem, z = mst (σ6) 6 (((p1 * 5) + p2).toNatClampNeg) p3 := ⟨_, rfl⟩
        have hp := hp σ14 eσ14
        have hP : va_P D vwCl (WM k ad g (σ14)) H := by rw [eσ14, WM_s (by decide)]; exact hP
        have hD : va_D A (WM k ad g (σ14)) := by rw [eσ14, WM_s (by decide)]; exact hD
        refine lv_iload hx hb dX8_patch_65 (lv_at hl 0 rfl) ?_
        exact hret v12 (σ14) _ _ _ _ _ _ dX8_patch_67 rfl hP hD hS (Nat.le_of_ble_eq_true rfl) (Nat.le_of_ble_eq_true rfl) hp
      · have hp := hp.2 c10
        refine lv_aload_n hx hb dX8_patch_36 rfl (lv_at hl 0 rfl) ?_
        refine lv_iconst (v := 2) hx hb dX8_patch_37 (by decide) ?_
        refine fw_ciV (As := [.int 2]) (rest := []) hC (c_X8_refuse l D k ad g hg hp) (cwV 1 hts (gA_V A_629 A_630 A_631 A_601 A_594) rfl rfl rfl (by decide +kernel) ⟨Nat.le_of_ble_eq_true rfl, Nat.le_of_ble_eq_true rfl⟩) (va_recv hK hP (ci := 12) (q0 := 0) rfl rfl) rfl hl.1 rfl (Nat.le_of_ble_eq_true rfl) dX8_patch_38 ⟨Nat.le_of_ble_eq_true rfl, Nat.le_of_ble_eq_true rfl⟩ hP hD hS Jn.same (fun r15 σ16 H locs hP hD hS hp => ?_)
        have hP : va_P D vwCl (WM k ad g (σ16)) H := hP
        have hD : va_D A (WM k ad g (σ16)) := hD
        exact hret r15 (σ16) _ _ _ _ _ _ dX8_patch_41 rfl hP hD hS (Nat.le_of_ble_eq_true rfl) (Nat.le_of_ble_eq_true rfl) hp
    · have hp := hp.2 c7
      exact B_20  (σ6) _ _ _  hP hD hS (lv_sub hl [0] rfl) hp
def q_X8_knock (n : Nat) (c : Nat) (post : Int32 → Mem → Prop) (σ : Mem) : Prop := (∀ σ1 : Mem, σ1 = mst (σ) 0 0 0 → (∀ σ2 : Mem, σ2 = mst (σ1) 0 8 (((σ1) 0 8) + 1) → post ((σ2) 0 8) (σ2)))
abbrev rm_X8_knock : Room := { frames := 0, cells := 0, slots := 0, locals := 0 }
abbrev wq_X8_knock : List Cond := Cond.code yX8_knock cX8_knock 1 (some .int) :: wALL
set_option maxHeartbeats 4000000 in
set_option maxRecDepth 100000 in
theorem c_X8_knock (l : Launch) (D : va_G) (k ad g : Nat → Nat) (hg : gok g) {sz : Nat} {σ : Mem} {post : Int32 → Mem → Prop} (hp : q_X8_knock (g 0) (g 2) post σ) : Met l yX8_knock wq_X8_knock rm_X8_knock (va_Pc [.ref (ad 0)] (Pw D k (WM k ad g (σ)) sz)) (va_Qi post (fun u => Bw D (WM k ad g (σ)) sz (WM k ad g u)) (va_A (WM k ad g (σ)) sz)) 0 0 (va_A (WM k ad g (σ)) sz) := by
  refine fw_i (wf := fun u : Mem => WM k ad g u) (by decide) rfl (Nat.le_of_ble_eq_true rfl) ?_
  intro p e s m args below meth c A Q ls hC hP hD hl hret
  obtain ⟨⟨hx, hb, hml, hown, hts⟩, hG, hA⟩ := id hC
  have hK := hG.1
  have hS : va_S A s.heap s.heap [] := va_S.rf
  have hin_X8 : ∀ w ∈ u_ws RX8 TX8 15, w ∈ wq_X8_knock := fun w h => List.mem_cons_of_mem _ (iU_X8 w h)
  have hf_41 := hts _ (List.mem_cons_of_mem _ A_595)
  have hf_210 := hts _ (List.mem_cons_of_mem _ A_797)
  have hl : lv_has ls 1 [(0, .ref (ad 0))] := hl
  have hown : s.vm.findClass RX8 = some m.cls := hown
  unfold q_X8_knock at hp
  refine lv_aload_n hx hb dX8_knock_0 rfl (lv_at hl 0 rfl) ?_
  refine lv_iconst (v := 0) hx hb dX8_knock_1 (by decide) ?_
  refine va_put (D := D) (ci := 12) (v := .int 0) (ty := .int) (C := RX8) (T := TX8) (N := 15) hx hb hts hin_X8 tyX8 tyX8_ok nmX8 hown hK hP hD hS 0 rfl rfl 0 (by decide) hf_41 (fun _ h9 => h9) rfl (by decide +kernel) rfl rfl (Nat.le_of_ble_eq_true rfl) dX8_knock_2 (fun H locs hP hD hS => ?_)
  obtain ⟨σ1, eσ1⟩ : ∃ z : Mem, z = mst (σ) 0 0 0 := ⟨_, rfl⟩
  have hp := hp σ1 eσ1
  have hP : va_P D vwCl (WM k ad g (σ1)) H := by rw [eσ1, WM_s (by decide)]; exact hP
  have hD : va_D A (WM k ad g (σ1)) := by rw [eσ1, WM_s (by decide)]; exact hD
  refine lv_aload_n hx hb dX8_knock_5 rfl (lv_at hl 0 rfl) ?_
  refine lv_dup hx hb dX8_knock_6 rfl ?_
  refine va_get (D := D) (ci := 12) (C := RX8) (T := TX8) (N := 15) hx hb hts hin_X8 hown hK hP 0 rfl rfl 8 (by decide) hf_210 (fun _ h9 => h9) rfl dX8_knock_7 ?_
  refine lv_iconst (v := 1) hx hb dX8_knock_10 (by decide) ?_
  refine lv_iadd hx hb dX8_knock_11 ?_
  refine va_put (D := D) (ci := 12) (v := .int (((σ1) 0 8) + 1)) (ty := .int) (C := RX8) (T := TX8) (N := 15) hx hb hts hin_X8 tyX8 tyX8_ok nmX8 hown hK hP hD hS 0 rfl rfl 8 (by decide) hf_210 (fun _ h9 => h9) rfl (by decide +kernel) rfl rfl (Nat.le_of_ble_eq_true rfl) dX8_knock_12 (fun H locs hP hD hS => ?_)
  obtain ⟨σ2, eσ2⟩ : ∃ z : Mem, z = mst (σ1) 0 8 (((σ1) 0 8) + 1) := ⟨_, rfl⟩
  have hp := hp σ2 eσ2
  have hP : va_P D vwCl (WM k ad g (σ2)) H := by rw [eσ2, WM_s (by decide)]; exact hP
  have hD : va_D A (WM k ad g (σ2)) := by rw [eσ2, WM_s (by decide)]; exact hD
  refine lv_aload_n hx hb dX8_knock_15 rfl (lv_at hl 0 rfl) ?_
  refine va_get (D := D) (ci := 12) (C := RX8) (T := TX8) (N := 15) hx hb hts hin_X8 hown hK hP 0 rfl rfl 8 (by decide) hf_210 (fun _ h9 => h9) rfl dX8_knock_16 ?_
  exact hret ((σ2) 0 8) (σ2) _ _ _ _ _ _ dX8_knock_19 rfl hP hD hS (Nat.le_of_ble_eq_true rfl) (Nat.le_of_ble_eq_true rfl) hp
def q_X8_changed_52 (n : Nat) (c : Nat) (post : Int32 → Mem → Prop)  (σ : Mem) : Prop := post (-1) (σ)
def q_X8_changed_44 (n : Nat) (c : Nat) (post : Int32 → Mem → Prop)  (x2 : Int32) (σ : Mem) : Prop := post x2 (σ)
def q_X8_changed_2 (n : Nat) (c : Nat) (post : Int32 → Mem → Prop) (kE_44 : Int32 → Mem → Prop) (kE_52 : Mem → Prop) (kc_2 : Int32 → Int32 → Mem → Prop) (x1 : Int32) (x2 : Int32) (σ : Mem) : Prop := (((nI c) ≤ x2 → kE_52 (σ)) ∧ (¬ ((nI c) ≤ x2) → (∃ j1002 : Nat, (j1002 < c ∧ x2 = nI j1002) ∧ (vp_in x1 5 ∧ (∃ j1004 : Nat, (j1004 < c ∧ (x2 - 1) = nI j1004) ∧ (vp_in x1 5 ∧ ((((σ) (200 + j1002) x1.toNatClampNeg) = ((σ) (200 + j1004) x1.toNatClampNeg) → (∀ v1007 : Int32, v1007 = x2 + 1 → kc_2 x1 v1007 (σ))) ∧ (¬ (((σ) (200 + j1002) x1.toNatClampNeg) = ((σ) (200 + j1004) x1.toNatClampNeg)) → kE_44 x2 (σ)))))))))
def q_X8_changed (n : Nat) (c : Nat) (post : Int32 → Mem → Prop) (p1 : Int32) (σ : Mem) : Prop := (∃ n9 : Nat, lp_3 (q_X8_changed_2 n c post (q_X8_changed_44 n c post) (q_X8_changed_52 n c post)) n9 p1 1 (σ))
abbrev rm_X8_changed : Room := { frames := 4, cells := 0, slots := 0, locals := 260 }
abbrev wq_X8_changed : List Cond := Cond.code yX8_changed cX8_changed 3 (some .int) :: wALL
set_option maxHeartbeats 4000000 in
set_option maxRecDepth 100000 in
theorem c_X8_changed (l : Launch) (D : va_G) (k ad g : Nat → Nat) (hg : gok g) {sz : Nat} {σ : Mem} {p1 : Int32} {post : Int32 → Mem → Prop} (hp : q_X8_changed (g 0) (g 2) post p1 σ) : Met l yX8_changed wq_X8_changed rm_X8_changed (va_Pc [.ref (ad 0), .int p1] (Pw D k (WM k ad g (σ)) sz)) (va_Qi post (fun u => Bw D (WM k ad g (σ)) sz (WM k ad g u)) (va_A (WM k ad g (σ)) sz)) 0 0 (va_A (WM k ad g (σ)) sz) := by
  refine fw_i (wf := fun u : Mem => WM k ad g u) (by decide) rfl (Nat.le_of_ble_eq_true rfl) ?_
  intro p e s m args below meth c A Q ls hC hP hD hl hret
  obtain ⟨⟨hx, hb, hml, hown, hts⟩, hG, hA⟩ := id hC
  have hK := hG.1
  have hS : va_S A s.heap s.heap [] := va_S.rf
  have hin_X8 : ∀ w ∈ u_ws RX8 TX8 15, w ∈ wq_X8_changed := fun w h => List.mem_cons_of_mem _ (iU_X8 w h)
  have hf_23 := hts _ (List.mem_cons_of_mem _ A_585)
  have hl : lv_has ls 3 [(0, .ref (ad 0)), (1, .int p1)] := hl
  have hown : s.vm.findClass RX8 = some m.cls := hown
  unfold q_X8_changed at hp
  have B_52 : ∀  (σ : Mem) (H : Heap) (locs : List Loc) (ls : Array Slot), va_P D vwCl (WM k ad g (σ)) H → va_D A (WM k ad g (σ)) → va_S A s.heap H locs → lv_has ls 3 [] → (q_X8_changed_52 (g 0) (g 2) post)  σ → W p l e rm_X8_changed s m args below meth c H locs 0 0 Q (F0 m 52 ls []) := by
    intro  σ H locs ls hP hD hS hl hp
    unfold q_X8_changed_52 at hp
    refine lv_iconst (v := (-1)) hx hb dX8_changed_52 (by decide) ?_
    exact hret (-1) (σ) _ _ _ _ _ _ dX8_changed_53 rfl hP hD hS (Nat.le_of_ble_eq_true rfl) (Nat.le_of_ble_eq_true rfl) hp
  have B_44 : ∀ (x2 : Int32) (σ : Mem) (H : Heap) (locs : List Loc) (ls : Array Slot), va_P D vwCl (WM k ad g (σ)) H → va_D A (WM k ad g (σ)) → va_S A s.heap H locs → lv_has ls 3 [(2, .int x2)] → (q_X8_changed_44 (g 0) (g 2) post) x2 σ → W p l e rm_X8_changed s m args below meth c H locs 0 0 Q (F0 m 44 ls []) := by
    intro x2 σ H locs ls hP hD hS hl hp
    unfold q_X8_changed_44 at hp
    refine lv_iload_n hx hb dX8_changed_44 rfl (lv_at hl 0 rfl) ?_
    exact hret x2 (σ) _ _ _ _ _ _ dX8_changed_45 rfl hP hD hS (Nat.le_of_ble_eq_true rfl) (Nat.le_of_ble_eq_true rfl) hp
  have B_2 : ∀ (n_2 : Nat) (x1 : Int32) (x2 : Int32) (σ : Mem) (H : Heap) (locs : List Loc) (ls : Array Slot), va_P D vwCl (WM k ad g (σ)) H → va_D A (WM k ad g (σ)) → va_S A s.heap H locs → lv_has ls 3 [(0, .ref (ad 0)), (1, .int x1), (2, .int x2)] → lp_3 (q_X8_changed_2 (g 0) (g 2) post (q_X8_changed_44 (g 0) (g 2) post) (q_X8_changed_52 (g 0) (g 2) post)) n_2 x1 x2 σ → W p l e rm_X8_changed s m args below meth c H locs 0 0 Q (F0 m 2 ls []) := by
    intro n_2
    induction n_2 with
    | zero => intro x1 x2 σ H locs ls hP hD hS hl hp; exact hp.elim
    | succ n_2 ih_2 =>
      intro x1 x2 σ H locs ls hP hD hS hl hp
      have hp : q_X8_changed_2 (g 0) (g 2) post (q_X8_changed_44 (g 0) (g 2) post) (q_X8_changed_52 (g 0) (g 2) post) (lp_3 (q_X8_changed_2 (g 0) (g 2) post (q_X8_changed_44 (g 0) (g 2) post) (q_X8_changed_52 (g 0) (g 2) post)) n_2) x1 x2 σ := hp
      unfold q_X8_changed_2 at hp
      refine lv_iload_n hx hb dX8_changed_2 rfl (lv_at hl 2 rfl) ?_
      refine lv_aload_n hx hb dX8_changed_3 rfl (lv_at hl 0 rfl) ?_
      refine va_get (D := D) (ci := 12) (C := RX8) (T := TX8) (N := 15) hx hb hts hin_X8 hown hK hP 0 rfl rfl 5 (by decide) hf_23 (fun _ h9 => h9) rfl dX8_changed_4 ?_
      refine wm_size_commit (rest := [.int x2]) hC (gA_V (a := Cond.code yX8_changed cX8_changed 3 (some .int)) A_605 A_606 A_607 A_583 A_602) hl.1 rfl (Nat.le_of_ble_eq_true rfl) (Nat.le_of_ble_eq_true rfl) (Nat.le_of_ble_eq_true rfl) dX8_changed_7 ⟨Nat.le_of_ble_eq_true rfl, Nat.le_of_ble_eq_true rfl⟩ hP hD hS (fun H locs hP hD hS => ?_)
      refine lv_icmp_ge (tgt := 52) hx hb dX8_changed_10 (by decide) (fun c10001 => ?_) (fun c10001 => ?_)
      · have hp := hp.1 c10001
        exact B_52  (σ) _ _ _  hP hD hS (lv_sub hl [] rfl) hp
      · have hp := hp.2 c10001
        refine lv_aload_n hx hb dX8_changed_13 rfl (lv_at hl 0 rfl) ?_
        refine va_get (D := D) (ci := 12) (C := RX8) (T := TX8) (N := 15) hx hb hts hin_X8 hown hK hP 0 rfl rfl 5 (by decide) hf_23 (fun _ h9 => h9) rfl dX8_changed_14 ?_
        refine lv_iload_n hx hb dX8_changed_17 rfl (lv_at hl 2 rfl) ?_
        obtain ⟨j10002, ⟨hj10002, ej10002⟩, hp⟩ := hp
        refine wm_get_commit (rest := []) hC hg hj10002 ej10002 (gA_V (a := Cond.code yX8_changed cX8_changed 3 (some .int)) A_621 A_622 A_623 A_583 A_613) hl.1 rfl (Nat.le_of_ble_eq_true rfl) (Nat.le_of_ble_eq_true rfl) (Nat.le_of_ble_eq_true rfl) dX8_changed_18 ⟨Nat.le_of_ble_eq_true rfl, Nat.le_of_ble_eq_true rfl⟩ hP hD hS (fun H locs hP hD hS => ?_)
        refine va_castA hx hb hown (hts _ (List.mem_cons_of_mem _ A_783)) hP (cmP g j10002) (WM_cm k ad g (σ) hj10002) hG.2.1.1 dX8_changed_21 ?_
        refine lv_iload_n hx hb dX8_changed_24 rfl (lv_at hl 1 rfl) ?_
        obtain ⟨h10003, hp⟩ := hp
        refine va_iald hx hb hK hP (cmP g j10002) 0 (WM_cm k ad g (σ) hj10002) rfl h10003 dX8_changed_25 ?_
        refine lv_aload_n hx hb dX8_changed_26 rfl (lv_at hl 0 rfl) ?_
        refine va_get (D := D) (ci := 12) (C := RX8) (T := TX8) (N := 15) hx hb hts hin_X8 hown hK hP 0 rfl rfl 5 (by decide) hf_23 (fun _ h9 => h9) rfl dX8_changed_27 ?_
        refine lv_iload_n hx hb dX8_changed_30 rfl (lv_at hl 2 rfl) ?_
        refine lv_iconst (v := 1) hx hb dX8_changed_31 (by decide) ?_
        refine lv_isub hx hb dX8_changed_32 ?_
        obtain ⟨j10004, ⟨hj10004, ej10004⟩, hp⟩ := hp
        refine wm_get_commit (rest := [.int ((σ) (200 + j10002) x1.toNatClampNeg)]) hC hg hj10004 ej10004 (gA_V (a := Cond.code yX8_changed cX8_changed 3 (some .int)) A_621 A_622 A_623 A_583 A_613) hl.1 rfl (Nat.le_of_ble_eq_true rfl) (Nat.le_of_ble_eq_true rfl) (Nat.le_of_ble_eq_true rfl) dX8_changed_33 ⟨Nat.le_of_ble_eq_true rfl, Nat.le_of_ble_eq_true rfl⟩ hP hD hS (fun H locs hP hD hS => ?_)
        refine va_castA hx hb hown (hts _ (List.mem_cons_of_mem _ A_783)) hP (cmP g j10004) (WM_cm k ad g (σ) hj10004) hG.2.1.1 dX8_changed_36 ?_
        refine lv_iload_n hx hb dX8_changed_39 rfl (lv_at hl 1 rfl) ?_
        obtain ⟨h10005, hp⟩ := hp
        refine va_iald hx hb hK hP (cmP g j10004) 0 (WM_cm k ad g (σ) hj10004) rfl h10005 dX8_changed_40 ?_
        refine lv_icmp_eq (tgt := 46) hx hb dX8_changed_41 (by decide) (fun c10006 => ?_) (fun c10006 => ?_)
        · have hp := hp.1 c10006
          obtain ⟨v10007, ev10007⟩ : ∃ z : Int32, z = x2 + 1 := ⟨_, rfl⟩
          have hp := hp v10007 ev10007
          refine lv_iinc (v := v10007) (lv' := [(2, .int v10007), (0, .ref (ad 0)), (1, .int x1)]) hx hb dX8_changed_46 hl (k := 2) rfl (by rw [ev10007]; rfl) (by decide) rfl (fun ls hl => ?_)
          refine lv_goto (tgt := 2) hx hb dX8_changed_49 (by decide) ?_
          exact ih_2 x1 v10007 (σ) _ _ _  hP hD hS (lv_sub hl [1, 2, 0] rfl) hp
        · have hp := hp.2 c10006
          exact B_44 x2 (σ) _ _ _  hP hD hS (lv_sub hl [2] rfl) hp
  refine lv_iconst (v := 1) hx hb dX8_changed_0 (by decide) ?_
  refine lv_istore_n (lv' := [(2, .int 1), (0, .ref (ad 0)), (1, .int p1)]) hx hb dX8_changed_1 rfl hl (by decide) rfl (fun ls hl => ?_)
  obtain ⟨n9, hp⟩ := hp
  exact B_2 n9 p1 1 (σ) _ _ _  hP hD hS (lv_sub hl [1, 2, 0] rfl) hp
def q_X8_ofFieldNow_92 (n : Nat) (c : Nat) (post : Int32 → Mem → Prop)  (s0 : Int32) (σ : Mem) : Prop := post s0 (σ)
def q_X8_ofFieldNow (n : Nat) (c : Nat) (post : Int32 → Mem → Prop) (p1 : Int32) (p2 : Int32) (σ : Mem) : Prop := ((sw_out p2 6 → (q_X8_changed n c (fun (r3 : Int32) (σ4 : Mem) => post r3 (σ4)) p1 (σ))) ∧ (p2 = nI 0 → (vp_in p1 5 ∧ post ((σ) 1 p1.toNatClampNeg) (σ))) ∧ (p2 = nI 1 → (q_X8_mayBe n c (fun (r6 : Int32) (σ7 : Mem) => post r6 (σ7)) p1 (σ))) ∧ (p2 = nI 2 → (q_X8_mayBe n c (fun (r8 : Int32) (σ9 : Mem) => (q_J6_bitCount_0f7a4 (fun (r10 : Int32) (σ11 : Mem) => post r10 (σ9)) r8 (σ9))) p1 (σ))) ∧ (p2 = nI 3 → (q_X8_whatIs n c (fun (r12 : Int32) (σ13 : Mem) => post r12 (σ13)) p1 (σ))) ∧ (p2 = nI 4 → (vp_in p1 5 ∧ post ((σ) 2 p1.toNatClampNeg) (σ))) ∧ (p2 = nI 5 → (q_X8_isChosen n c (fun (r15 : Int32) (σ16 : Mem) => ((r15 = 0 → (q_X8_ofFieldNow_92 n c post) (-1) (σ16)) ∧ (¬ (r15 = 0) → (vp_in p1 5 ∧ (q_X8_ofFieldNow_92 n c post) ((σ16) 9 p1.toNatClampNeg) (σ16))))) (σ))))
abbrev rm_X8_ofFieldNow : Room := { frames := 18, cells := 0, slots := 0, locals := 885 }
abbrev wq_X8_ofFieldNow : List Cond := Cond.code yX8_ofFieldNow cX8_ofFieldNow 3 (some .int) :: wALL
set_option maxHeartbeats 4000000 in
set_option maxRecDepth 100000 in
theorem c_X8_ofFieldNow (l : Launch) (D : va_G) (k ad g : Nat → Nat) (hg : gok g) {sz : Nat} {σ : Mem} {p1 : Int32} {p2 : Int32} {post : Int32 → Mem → Prop} (hp : q_X8_ofFieldNow (g 0) (g 2) post p1 p2 σ) : Met l yX8_ofFieldNow wq_X8_ofFieldNow rm_X8_ofFieldNow (va_Pc [.ref (ad 0), .int p1, .int p2] (Pw D k (WM k ad g (σ)) sz)) (va_Qi post (fun u => Bw D (WM k ad g (σ)) sz (WM k ad g u)) (va_A (WM k ad g (σ)) sz)) 0 0 (va_A (WM k ad g (σ)) sz) := by
  refine fw_i (wf := fun u : Mem => WM k ad g u) (by decide) rfl (Nat.le_of_ble_eq_true rfl) ?_
  intro p e s m args below meth c A Q ls hC hP hD hl hret
  obtain ⟨⟨hx, hb, hml, hown, hts⟩, hG, hA⟩ := id hC
  have hK := hG.1
  have hS : va_S A s.heap s.heap [] := va_S.rf
  have hin_X8 : ∀ w ∈ u_ws RX8 TX8 15, w ∈ wq_X8_ofFieldNow := fun w h => List.mem_cons_of_mem _ (iU_X8 w h)
  have hf_9 := hts _ (List.mem_cons_of_mem _ A_579)
  have hf_13 := hts _ (List.mem_cons_of_mem _ A_580)
  have hf_38 := hts _ (List.mem_cons_of_mem _ A_590)
  have hl : lv_has ls 3 [(0, .ref (ad 0)), (1, .int p1), (2, .int p2)] := hl
  have hown : s.vm.findClass RX8 = some m.cls := hown
  unfold q_X8_ofFieldNow at hp
  have B_92 : ∀ (s0 : Int32) (σ : Mem) (H : Heap) (locs : List Loc) (ls : Array Slot), va_P D vwCl (WM k ad g (σ)) H → va_D A (WM k ad g (σ)) → va_S A s.heap H locs → lv_has ls 3 [] → (q_X8_ofFieldNow_92 (g 0) (g 2) post) s0 σ → W p l e rm_X8_ofFieldNow s m args below meth c H locs 0 0 Q (F0 m 92 ls [.int s0]) := by
    intro s0 σ H locs ls hP hD hS hl hp
    unfold q_X8_ofFieldNow_92 at hp
    exact hret s0 (σ) _ _ _ _ _ _ dX8_ofFieldNow_92 rfl hP hD hS (Nat.le_of_ble_eq_true rfl) (Nat.le_of_ble_eq_true rfl) hp
  refine lv_iload_n hx hb dX8_ofFieldNow_0 rfl (lv_at hl 2 rfl) ?_
  rcases sw_in p2 6 (by decide) with c1 | ⟨j2, hj2, ej2⟩
  · have hp := hp.1 c1
    refine lv_tableOut (tgt := 93) hx hb dX8_ofFieldNow_1 (sw_of c1) (by decide) ?_
    refine lv_aload_n hx hb dX8_ofFieldNow_93 rfl (lv_at hl 0 rfl) ?_
    refine lv_iload_n hx hb dX8_ofFieldNow_94 rfl (lv_at hl 1 rfl) ?_
    refine fw_ciV (As := [.int p1]) (rest := []) hC (c_X8_changed l D k ad g hg hp) (cwV 1 hts (gA_V A_808 A_809 A_810 A_601 A_798) rfl rfl rfl (by decide +kernel) ⟨Nat.le_of_ble_eq_true rfl, Nat.le_of_ble_eq_true rfl⟩) (va_recv hK hP (ci := 12) (q0 := 0) rfl rfl) rfl hl.1 rfl (Nat.le_of_ble_eq_true rfl) dX8_ofFieldNow_95 ⟨Nat.le_of_ble_eq_true rfl, Nat.le_of_ble_eq_true rfl⟩ hP hD hS Jn.same (fun r3 σ4 H locs hP hD hS hp => ?_)
    have hP : va_P D vwCl (WM k ad g (σ4)) H := hP
    have hD : va_D A (WM k ad g (σ4)) := hD
    exact hret r3 (σ4) _ _ _ _ _ _ dX8_ofFieldNow_98 rfl hP hD hS (Nat.le_of_ble_eq_true rfl) (Nat.le_of_ble_eq_true rfl) hp
  · have hp := hp.2
    rcases (show j2 = 0 ∨ j2 = 1 ∨ j2 = 2 ∨ j2 = 3 ∨ j2 = 4 ∨ j2 = 5 by omega) with rfl | rfl | rfl | rfl | rfl | rfl
    · have hp := hp.1 ej2
      refine lv_tableIn (tgt := 40) (off := 39) hx hb dX8_ofFieldNow_1 (by rw [ej2]; decide) (by rw [ej2]; decide) (by rw [ej2]; rfl) (by decide) ?_
      refine lv_aload_n hx hb dX8_ofFieldNow_40 rfl (lv_at hl 0 rfl) ?_
      refine va_get (D := D) (ci := 12) (C := RX8) (T := TX8) (N := 15) hx hb hts hin_X8 hown hK hP 0 rfl rfl 1 (by decide) hf_9 (fun _ h9 => h9) rfl dX8_ofFieldNow_41 ?_
      refine lv_iload_n hx hb dX8_ofFieldNow_44 rfl (lv_at hl 1 rfl) ?_
      obtain ⟨h5, hp⟩ := hp
      refine va_iald hx hb hK hP 1 0 rfl rfl h5 dX8_ofFieldNow_45 ?_
      exact hret ((σ) 1 p1.toNatClampNeg) (σ) _ _ _ _ _ _ dX8_ofFieldNow_46 rfl hP hD hS (Nat.le_of_ble_eq_true rfl) (Nat.le_of_ble_eq_true rfl) hp
    · have hp := hp.2.1 ej2
      refine lv_tableIn (tgt := 47) (off := 46) hx hb dX8_ofFieldNow_1 (by rw [ej2]; decide) (by rw [ej2]; decide) (by rw [ej2]; rfl) (by decide) ?_
      refine lv_aload_n hx hb dX8_ofFieldNow_47 rfl (lv_at hl 0 rfl) ?_
      refine lv_iload_n hx hb dX8_ofFieldNow_48 rfl (lv_at hl 1 rfl) ?_
      refine fw_ciV (As := [.int p1]) (rest := []) hC (c_X8_mayBe l D k ad g hg hp) (cwV 1 hts (gA_V A_799 A_800 A_801 A_601 A_761) rfl rfl rfl (by decide +kernel) ⟨Nat.le_of_ble_eq_true rfl, Nat.le_of_ble_eq_true rfl⟩) (va_recv hK hP (ci := 12) (q0 := 0) rfl rfl) rfl hl.1 rfl (Nat.le_of_ble_eq_true rfl) dX8_ofFieldNow_49 ⟨Nat.le_of_ble_eq_true rfl, Nat.le_of_ble_eq_true rfl⟩ hP hD hS Jn.same (fun r6 σ7 H locs hP hD hS hp => ?_)
      have hP : va_P D vwCl (WM k ad g (σ7)) H := hP
      have hD : va_D A (WM k ad g (σ7)) := hD
      exact hret r6 (σ7) _ _ _ _ _ _ dX8_ofFieldNow_52 rfl hP hD hS (Nat.le_of_ble_eq_true rfl) (Nat.le_of_ble_eq_true rfl) hp
    · have hp := hp.2.2.1 ej2
      refine lv_tableIn (tgt := 53) (off := 52) hx hb dX8_ofFieldNow_1 (by rw [ej2]; decide) (by rw [ej2]; decide) (by rw [ej2]; rfl) (by decide) ?_
      refine lv_aload_n hx hb dX8_ofFieldNow_53 rfl (lv_at hl 0 rfl) ?_
      refine lv_iload_n hx hb dX8_ofFieldNow_54 rfl (lv_at hl 1 rfl) ?_
      refine fw_ciV (As := [.int p1]) (rest := []) hC (c_X8_mayBe l D k ad g hg hp) (cwV 1 hts (gA_V A_799 A_800 A_801 A_601 A_761) rfl rfl rfl (by decide +kernel) ⟨Nat.le_of_ble_eq_true rfl, Nat.le_of_ble_eq_true rfl⟩) (va_recv hK hP (ci := 12) (q0 := 0) rfl rfl) rfl hl.1 rfl (Nat.le_of_ble_eq_true rfl) dX8_ofFieldNow_55 ⟨Nat.le_of_ble_eq_true rfl, Nat.le_of_ble_eq_true rfl⟩ hP hD hS Jn.same (fun r8 σ9 H locs hP hD hS hp => ?_)
      have hP : va_P D vwCl (WM k ad g (σ9)) H := hP
      have hD : va_D A (WM k ad g (σ9)) := hD
      refine fw_ciS (As := [.int r8]) (rest := []) hC (c_J6_bitCount_0f7a4 l D k hp) (va_cwS 1 hts (gA_S A_695 A_149 A_150 A_141) rfl rfl rfl (by decide +kernel) ⟨Nat.le_of_ble_eq_true rfl, Nat.le_of_ble_eq_true rfl⟩) rfl hl.1 rfl (Nat.le_of_ble_eq_true rfl) dX8_ofFieldNow_58 ⟨Nat.le_of_ble_eq_true rfl, Nat.le_of_ble_eq_true rfl⟩ P_nil D_nil hS (Jn.pure (w0 := fun _ : Mem => []) hP hD) (fun r10 σ11 H locs hP hD hS hp => ?_)
      have hP : va_P D vwCl (WM k ad g (σ9)) H := hP
      have hD : va_D A (WM k ad g (σ9)) := hD
      exact hret r10 (σ9) _ _ _ _ _ _ dX8_ofFieldNow_61 rfl hP hD hS (Nat.le_of_ble_eq_true rfl) (Nat.le_of_ble_eq_true rfl) hp
    · have hp := hp.2.2.2.1 ej2
      refine lv_tableIn (tgt := 62) (off := 61) hx hb dX8_ofFieldNow_1 (by rw [ej2]; decide) (by rw [ej2]; decide) (by rw [ej2]; rfl) (by decide) ?_
      refine lv_aload_n hx hb dX8_ofFieldNow_62 rfl (lv_at hl 0 rfl) ?_
      refine lv_iload_n hx hb dX8_ofFieldNow_63 rfl (lv_at hl 1 rfl) ?_
      refine fw_ciV (As := [.int p1]) (rest := []) hC (c_X8_whatIs l D k ad g hg hp) (cwV 1 hts (gA_V A_802 A_803 A_804 A_601 A_759) rfl rfl rfl (by decide +kernel) ⟨Nat.le_of_ble_eq_true rfl, Nat.le_of_ble_eq_true rfl⟩) (va_recv hK hP (ci := 12) (q0 := 0) rfl rfl) rfl hl.1 rfl (Nat.le_of_ble_eq_true rfl) dX8_ofFieldNow_64 ⟨Nat.le_of_ble_eq_true rfl, Nat.le_of_ble_eq_true rfl⟩ hP hD hS Jn.same (fun r12 σ13 H locs hP hD hS hp => ?_)
      have hP : va_P D vwCl (WM k ad g (σ13)) H := hP
      have hD : va_D A (WM k ad g (σ13)) := hD
      exact hret r12 (σ13) _ _ _ _ _ _ dX8_ofFieldNow_67 rfl hP hD hS (Nat.le_of_ble_eq_true rfl) (Nat.le_of_ble_eq_true rfl) hp
    · have hp := hp.2.2.2.2.1 ej2
      refine lv_tableIn (tgt := 68) (off := 67) hx hb dX8_ofFieldNow_1 (by rw [ej2]; decide) (by rw [ej2]; decide) (by rw [ej2]; rfl) (by decide) ?_
      refine lv_aload_n hx hb dX8_ofFieldNow_68 rfl (lv_at hl 0 rfl) ?_
      refine va_get (D := D) (ci := 12) (C := RX8) (T := TX8) (N := 15) hx hb hts hin_X8 hown hK hP 0 rfl rfl 2 (by decide) hf_13 (fun _ h9 => h9) rfl dX8_ofFieldNow_69 ?_
      refine lv_iload_n hx hb dX8_ofFieldNow_72 rfl (lv_at hl 1 rfl) ?_
      obtain ⟨h14, hp⟩ := hp
      refine va_iald hx hb hK hP 2 0 rfl rfl h14 dX8_ofFieldNow_73 ?_
      exact hret ((σ) 2 p1.toNatClampNeg) (σ) _ _ _ _ _ _ dX8_ofFieldNow_74 rfl hP hD hS (Nat.le_of_ble_eq_true rfl) (Nat.le_of_ble_eq_true rfl) hp
    · have hp := hp.2.2.2.2.2 ej2
      refine lv_tableIn (tgt := 75) (off := 74) hx hb dX8_ofFieldNow_1 (by rw [ej2]; decide) (by rw [ej2]; decide) (by rw [ej2]; rfl) (by decide) ?_
      refine lv_aload_n hx hb dX8_ofFieldNow_75 rfl (lv_at hl 0 rfl) ?_
      refine fw_ciV (As := []) (rest := []) hC (c_X8_isChosen l D k ad g hg hp) (cwV 0 hts (gA_V A_805 A_806 A_807 A_601 A_773) rfl rfl rfl (by decide +kernel) ⟨Nat.le_of_ble_eq_true rfl, Nat.le_of_ble_eq_true rfl⟩) (va_recv hK hP (ci := 12) (q0 := 0) rfl rfl) rfl hl.1 rfl (Nat.le_of_ble_eq_true rfl) dX8_ofFieldNow_76 ⟨Nat.le_of_ble_eq_true rfl, Nat.le_of_ble_eq_true rfl⟩ hP hD hS Jn.same (fun r15 σ16 H locs hP hD hS hp => ?_)
      have hP : va_P D vwCl (WM k ad g (σ16)) H := hP
      have hD : va_D A (WM k ad g (σ16)) := hD
      refine lv_if_eq (tgt := 91) hx hb dX8_ofFieldNow_79 (by decide) (fun c17 => ?_) (fun c17 => ?_)
      · have hp := hp.1 c17
        refine lv_iconst (v := (-1)) hx hb dX8_ofFieldNow_91 (by decide) ?_
        exact B_92 (-1) (σ16) _ _ _  hP hD hS (lv_sub hl [] rfl) hp
      · have hp := hp.2 c17
        refine lv_aload_n hx hb dX8_ofFieldNow_82 rfl (lv_at hl 0 rfl) ?_
        refine va_get (D := D) (ci := 12) (C := RX8) (T := TX8) (N := 15) hx hb hts hin_X8 hown hK hP 0 rfl rfl 11 (by decide) hf_38 (fun _ h9 => h9) rfl dX8_ofFieldNow_83 ?_
        refine lv_iload_n hx hb dX8_ofFieldNow_86 rfl (lv_at hl 1 rfl) ?_
        obtain ⟨h18, hp⟩ := hp
        refine va_iald hx hb hK hP 9 0 rfl rfl h18 dX8_ofFieldNow_87 ?_
        refine lv_goto (tgt := 92) hx hb dX8_ofFieldNow_88 (by decide) ?_
        exact B_92 ((σ16) 9 p1.toNatClampNeg) (σ16) _ _ _  hP hD hS (lv_sub hl [] rfl) hp
def q_X8_ofField_43 (n : Nat) (c : Nat) (post : Int32 → Mem → Prop)  (s0 : Int32) (σ : Mem) : Prop := post s0 (σ)
def q_X8_ofField (n : Nat) (c : Nat) (post : Int32 → Mem → Prop) (p1 : Int32) (p2 : Int32) (σ : Mem) : Prop := (∀ σ1 : Mem, σ1 = mst (σ) 0 0 0 → (q_X8_isField n c (fun (r2 : Int32) (σ3 : Mem) => ((r2 ≠ 0 → (q_X8_is (fun (r5 : Int32) (σ6 : Mem) => ((r5 = 0 → (q_X8_refuse n c (fun (r8 : Int32) (σ9 : Mem) => (q_X8_ofField_43 n c post) r8 (σ9)) 2 (σ3))) ∧ (¬ (r5 = 0) → (q_X8_ofFieldNow n c (fun (r10 : Int32) (σ11 : Mem) => (q_X8_ofField_43 n c post) r10 (σ11)) p1 p2 (σ3))))) p2 0 6 (σ3))) ∧ (r2 = 0 → (q_X8_refuse n c (fun (r12 : Int32) (σ13 : Mem) => post r12 (σ13)) 1 (σ3))))) p1 (σ1)))
abbrev rm_X8_ofField : Room := { frames := 19, cells := 0, slots := 0, locals := 907 }
abbrev wq_X8_ofField : List Cond := Cond.code yX8_ofField cX8_ofField 3 (some .int) :: wALL
set_option maxHeartbeats 4000000 in
set_option maxRecDepth 100000 in
theorem c_X8_ofField (l : Launch) (D : va_G) (k ad g : Nat → Nat) (hg : gok g) {sz : Nat} {σ : Mem} {p1 : Int32} {p2 : Int32} {post : Int32 → Mem → Prop} (hp : q_X8_ofField (g 0) (g 2) post p1 p2 σ) : Met l yX8_ofField wq_X8_ofField rm_X8_ofField (va_Pc [.ref (ad 0), .int p1, .int p2] (Pw D k (WM k ad g (σ)) sz)) (va_Qi post (fun u => Bw D (WM k ad g (σ)) sz (WM k ad g u)) (va_A (WM k ad g (σ)) sz)) 0 0 (va_A (WM k ad g (σ)) sz) := by
  refine fw_i (wf := fun u : Mem => WM k ad g u) (by decide) rfl (Nat.le_of_ble_eq_true rfl) ?_
  intro p e s m args below meth c A Q ls hC hP hD hl hret
  obtain ⟨⟨hx, hb, hml, hown, hts⟩, hG, hA⟩ := id hC
  have hK := hG.1
  have hS : va_S A s.heap s.heap [] := va_S.rf
  have hin_X8 : ∀ w ∈ u_ws RX8 TX8 15, w ∈ wq_X8_ofField := fun w h => List.mem_cons_of_mem _ (iU_X8 w h)
  have hf_41 := hts _ (List.mem_cons_of_mem _ A_595)
  have hl : lv_has ls 3 [(0, .ref (ad 0)), (1, .int p1), (2, .int p2)] := hl
  have hown : s.vm.findClass RX8 = some m.cls := hown
  unfold q_X8_ofField at hp
  have B_43 : ∀ (s0 : Int32) (σ : Mem) (H : Heap) (locs : List Loc) (ls : Array Slot), va_P D vwCl (WM k ad g (σ)) H → va_D A (WM k ad g (σ)) → va_S A s.heap H locs → lv_has ls 3 [] → (q_X8_ofField_43 (g 0) (g 2) post) s0 σ → W p l e rm_X8_ofField s m args below meth c H locs 0 0 Q (F0 m 43 ls [.int s0]) := by
    intro s0 σ H locs ls hP hD hS hl hp
    unfold q_X8_ofField_43 at hp
    exact hret s0 (σ) _ _ _ _ _ _ dX8_ofField_43 rfl hP hD hS (Nat.le_of_ble_eq_true rfl) (Nat.le_of_ble_eq_true rfl) hp
  refine lv_aload_n hx hb dX8_ofField_0 rfl (lv_at hl 0 rfl) ?_
  refine lv_iconst (v := 0) hx hb dX8_ofField_1 (by decide) ?_
  refine va_put (D := D) (ci := 12) (v := .int 0) (ty := .int) (C := RX8) (T := TX8) (N := 15) hx hb hts hin_X8 tyX8 tyX8_ok nmX8 hown hK hP hD hS 0 rfl rfl 0 (by decide) hf_41 (fun _ h9 => h9) rfl (by decide +kernel) rfl rfl (Nat.le_of_ble_eq_true rfl) dX8_ofField_2 (fun H locs hP hD hS => ?_)
  obtain ⟨σ1, eσ1⟩ : ∃ z : Mem, z = mst (σ) 0 0 0 := ⟨_, rfl⟩
  have hp := hp σ1 eσ1
  have hP : va_P D vwCl (WM k ad g (σ1)) H := by rw [eσ1, WM_s (by decide)]; exact hP
  have hD : va_D A (WM k ad g (σ1)) := by rw [eσ1, WM_s (by decide)]; exact hD
  refine lv_aload_n hx hb dX8_ofField_5 rfl (lv_at hl 0 rfl) ?_
  refine lv_iload_n hx hb dX8_ofField_6 rfl (lv_at hl 1 rfl) ?_
  refine fw_ciV (As := [.int p1]) (rest := []) hC (c_X8_isField l D k ad g hg hp) (cwV 1 hts (gA_V A_665 A_666 A_667 A_601 A_597) rfl rfl rfl (by decide +kernel) ⟨Nat.le_of_ble_eq_true rfl, Nat.le_of_ble_eq_true rfl⟩) (va_recv hK hP (ci := 12) (q0 := 0) rfl rfl) rfl hl.1 rfl (Nat.le_of_ble_eq_true rfl) dX8_ofField_7 ⟨Nat.le_of_ble_eq_true rfl, Nat.le_of_ble_eq_true rfl⟩ hP hD hS Jn.same (fun r2 σ3 H locs hP hD hS hp => ?_)
  have hP : va_P D vwCl (WM k ad g (σ3)) H := hP
  have hD : va_D A (WM k ad g (σ3)) := hD
  refine lv_if_ne (tgt := 19) hx hb dX8_ofField_10 (by decide) (fun c4 => ?_) (fun c4 => ?_)
  · have hp := hp.1 c4
    refine lv_iload_n hx hb dX8_ofField_19 rfl (lv_at hl 2 rfl) ?_
    refine lv_iconst (v := 0) hx hb dX8_ofField_20 (by decide) ?_
    refine lv_bipush (v := 6) hx hb dX8_ofField_21 (by decide) ?_
    refine fw_ciS (As := [.int p2, .int 0, .int 6]) (rest := []) hC (c_X8_is l D k hp) (va_cwS 3 hts (gA_S A_599 A_600 A_601 A_596) rfl rfl rfl (by decide +kernel) ⟨Nat.le_of_ble_eq_true rfl, Nat.le_of_ble_eq_true rfl⟩) rfl hl.1 rfl (Nat.le_of_ble_eq_true rfl) dX8_ofField_23 ⟨Nat.le_of_ble_eq_true rfl, Nat.le_of_ble_eq_true rfl⟩ P_nil D_nil hS (Jn.pure (w0 := fun _ : Mem => []) hP hD) (fun r5 σ6 H locs hP hD hS hp => ?_)
    have hP : va_P D vwCl (WM k ad g (σ3)) H := hP
    have hD : va_D A (WM k ad g (σ3)) := hD
    refine lv_if_eq (tgt := 38) hx hb dX8_ofField_26 (by decide) (fun c7 => ?_) (fun c7 => ?_)
    · have hp := hp.1 c7
      refine lv_aload_n hx hb dX8_ofField_38 rfl (lv_at hl 0 rfl) ?_
      refine lv_iconst (v := 2) hx hb dX8_ofField_39 (by decide) ?_
      refine fw_ciV (As := [.int 2]) (rest := []) hC (c_X8_refuse l D k ad g hg hp) (cwV 1 hts (gA_V A_629 A_630 A_631 A_601 A_594) rfl rfl rfl (by decide +kernel) ⟨Nat.le_of_ble_eq_true rfl, Nat.le_of_ble_eq_true rfl⟩) (va_recv hK hP (ci := 12) (q0 := 0) rfl rfl) rfl hl.1 rfl (Nat.le_of_ble_eq_true rfl) dX8_ofField_40 ⟨Nat.le_of_ble_eq_true rfl, Nat.le_of_ble_eq_true rfl⟩ hP hD hS Jn.same (fun r8 σ9 H locs hP hD hS hp => ?_)
      have hP : va_P D vwCl (WM k ad g (σ9)) H := hP
      have hD : va_D A (WM k ad g (σ9)) := hD
      exact B_43 r8 (σ9) _ _ _  hP hD hS (lv_sub hl [] rfl) hp
    · have hp := hp.2 c7
      refine lv_aload_n hx hb dX8_ofField_29 rfl (lv_at hl 0 rfl) ?_
      refine lv_iload_n hx hb dX8_ofField_30 rfl (lv_at hl 1 rfl) ?_
      refine lv_iload_n hx hb dX8_ofField_31 rfl (lv_at hl 2 rfl) ?_
      refine fw_ciV (As := [.int p1, .int p2]) (rest := []) hC (c_X8_ofFieldNow l D k ad g hg hp) (cwV 2 hts (gA_V A_812 A_813 A_814 A_601 A_811) rfl rfl rfl (by decide +kernel) ⟨Nat.le_of_ble_eq_true rfl, Nat.le_of_ble_eq_true rfl⟩) (va_recv hK hP (ci := 12) (q0 := 0) rfl rfl) rfl hl.1 rfl (Nat.le_of_ble_eq_true rfl) dX8_ofField_32 ⟨Nat.le_of_ble_eq_true rfl, Nat.le_of_ble_eq_true rfl⟩ hP hD hS Jn.same (fun r10 σ11 H locs hP hD hS hp => ?_)
      have hP : va_P D vwCl (WM k ad g (σ11)) H := hP
      have hD : va_D A (WM k ad g (σ11)) := hD
      refine lv_goto (tgt := 43) hx hb dX8_ofField_35 (by decide) ?_
      exact B_43 r10 (σ11) _ _ _  hP hD hS (lv_sub hl [] rfl) hp
  · have hp := hp.2 c4
    refine lv_aload_n hx hb dX8_ofField_13 rfl (lv_at hl 0 rfl) ?_
    refine lv_iconst (v := 1) hx hb dX8_ofField_14 (by decide) ?_
    refine fw_ciV (As := [.int 1]) (rest := []) hC (c_X8_refuse l D k ad g hg hp) (cwV 1 hts (gA_V A_629 A_630 A_631 A_601 A_594) rfl rfl rfl (by decide +kernel) ⟨Nat.le_of_ble_eq_true rfl, Nat.le_of_ble_eq_true rfl⟩) (va_recv hK hP (ci := 12) (q0 := 0) rfl rfl) rfl hl.1 rfl (Nat.le_of_ble_eq_true rfl) dX8_ofField_15 ⟨Nat.le_of_ble_eq_true rfl, Nat.le_of_ble_eq_true rfl⟩ hP hD hS Jn.same (fun r12 σ13 H locs hP hD hS hp => ?_)
    have hP : va_P D vwCl (WM k ad g (σ13)) H := hP
    have hD : va_D A (WM k ad g (σ13)) := hD
    exact hret r12 (σ13) _ _ _ _ _ _ dX8_ofField_18 rfl hP hD hS (Nat.le_of_ble_eq_true rfl) (Nat.le_of_ble_eq_true rfl) hp
def q_X8_ofLineNow_90 (n : Nat) (c : Nat) (post : Int32 → Mem → Prop)  (s0 : Int32) (σ : Mem) : Prop := post s0 (σ)
def q_X8_ofLineNow (n : Nat) (c : Nat) (post : Int32 → Mem → Prop) (p1 : Int32) (p2 : Int32) (σ : Mem) : Prop := (∃ j1 : Nat, (j1 < n ∧ p1 = nI j1) ∧ ((sw_out p2 6 → (q_X8_reasonFor n c (fun (r4 : Int32) (σ5 : Mem) => post ((r4 >>> (p1 &&& 31)) &&& 1) (σ5)) (-1) (σ))) ∧ (p2 = nI 0 → post ((σ) (100 + j1) 0) (σ)) ∧ (p2 = nI 1 → post ((σ) (100 + j1) 1) (σ)) ∧ (p2 = nI 2 → post ((σ) (100 + j1) 2) (σ)) ∧ (p2 = nI 3 → post ((σ) (100 + j1) 3) (σ)) ∧ (p2 = nI 4 → post ((σ) (100 + j1) 4) (σ)) ∧ (p2 = nI 5 → (q_X8_counts n c j1 (fun (r6 : Int32) (σ7 : Mem) => ((r6 = 0 → (q_X8_ofLineNow_90 n c post) 0 (σ7)) ∧ (¬ (r6 = 0) → (q_X8_ofLineNow_90 n c post) 1 (σ7)))) (σ)))))
abbrev rm_X8_ofLineNow : Room := { frames := 7, cells := 0, slots := 0, locals := 333 }
abbrev wq_X8_ofLineNow : List Cond := Cond.code yX8_ofLineNow cX8_ofLineNow 4 (some .int) :: wALL
set_option maxHeartbeats 4000000 in
set_option maxRecDepth 100000 in
theorem c_X8_ofLineNow (l : Launch) (D : va_G) (k ad g : Nat → Nat) (hg : gok g) {sz : Nat} {σ : Mem} {p1 : Int32} {p2 : Int32} {post : Int32 → Mem → Prop} (hp : q_X8_ofLineNow (g 0) (g 2) post p1 p2 σ) : Met l yX8_ofLineNow wq_X8_ofLineNow rm_X8_ofLineNow (va_Pc [.ref (ad 0), .int p1, .int p2] (Pw D k (WM k ad g (σ)) sz)) (va_Qi post (fun u => Bw D (WM k ad g (σ)) sz (WM k ad g u)) (va_A (WM k ad g (σ)) sz)) 0 0 (va_A (WM k ad g (σ)) sz) := by
  refine fw_i (wf := fun u : Mem => WM k ad g u) (by decide) rfl (Nat.le_of_ble_eq_true rfl) ?_
  intro p e s m args below meth c A Q ls hC hP hD hl hret
  obtain ⟨⟨hx, hb, hml, hown, hts⟩, hG, hA⟩ := id hC
  have hK := hG.1
  have hS : va_S A s.heap s.heap [] := va_S.rf
  have hin_X8 : ∀ w ∈ u_ws RX8 TX8 15, w ∈ wq_X8_ofLineNow := fun w h => List.mem_cons_of_mem _ (iU_X8 w h)
  have hf_19 := hts _ (List.mem_cons_of_mem _ A_584)
  have hin_X7 : ∀ w ∈ u_ws RX7 TX7 7, w ∈ wq_X8_ofLineNow := fun w h => List.mem_cons_of_mem _ (iU_X7 w h)
  have hl : lv_has ls 4 [(0, .ref (ad 0)), (1, .int p1), (2, .int p2)] := hl
  have hown : s.vm.findClass RX8 = some m.cls := hown
  unfold q_X8_ofLineNow at hp
  have B_90 : ∀ (s0 : Int32) (σ : Mem) (H : Heap) (locs : List Loc) (ls : Array Slot), va_P D vwCl (WM k ad g (σ)) H → va_D A (WM k ad g (σ)) → va_S A s.heap H locs → lv_has ls 4 [] → (q_X8_ofLineNow_90 (g 0) (g 2) post) s0 σ → W p l e rm_X8_ofLineNow s m args below meth c H locs 0 0 Q (F0 m 90 ls [.int s0]) := by
    intro s0 σ H locs ls hP hD hS hl hp
    unfold q_X8_ofLineNow_90 at hp
    exact hret s0 (σ) _ _ _ _ _ _ dX8_ofLineNow_90 rfl hP hD hS (Nat.le_of_ble_eq_true rfl) (Nat.le_of_ble_eq_true rfl) hp
  refine lv_aload_n hx hb dX8_ofLineNow_0 rfl (lv_at hl 0 rfl) ?_
  refine va_get (D := D) (ci := 12) (C := RX8) (T := TX8) (N := 15) hx hb hts hin_X8 hown hK hP 0 rfl rfl 4 (by decide) hf_19 (fun _ h9 => h9) rfl dX8_ofLineNow_1 ?_
  refine lv_iload_n hx hb dX8_ofLineNow_4 rfl (lv_at hl 1 rfl) ?_
  obtain ⟨j1, ⟨hj1, ej1⟩, hp⟩ := hp
  refine wm_get_line (rest := []) hC hg hj1 ej1 (gA_V (a := Cond.code yX8_ofLineNow cX8_ofLineNow 4 (some .int)) A_621 A_622 A_623 A_583 A_613) hl.1 rfl (Nat.le_of_ble_eq_true rfl) (Nat.le_of_ble_eq_true rfl) (Nat.le_of_ble_eq_true rfl) dX8_ofLineNow_5 ⟨Nat.le_of_ble_eq_true rfl, Nat.le_of_ble_eq_true rfl⟩ hP hD hS (fun H locs hP hD hS => ?_)
  refine va_castS hx hb hown (hts _ (List.mem_cons_of_mem _ A_662)) (hK.1 11 _ rfl).2 (va_recv hK hP (ci := 11) (q0 := lnP g j1) rfl (WM_ln k ad g (σ) hj1)) dX8_ofLineNow_8 ?_
  refine lv_astore_n (lv' := [(3, .ref (ad (100 + j1))), (0, .ref (ad 0)), (1, .int p1), (2, .int p2)]) hx hb dX8_ofLineNow_11 rfl hl (by decide) rfl (fun ls hl => ?_)
  refine lv_iload_n hx hb dX8_ofLineNow_12 rfl (lv_at hl 3 rfl) ?_
  rcases sw_in p2 6 (by decide) with c2 | ⟨j3, hj3, ej3⟩
  · have hp := hp.1 c2
    refine lv_tableOut (tgt := 91) hx hb dX8_ofLineNow_13 (sw_of c2) (by decide) ?_
    refine lv_aload_n hx hb dX8_ofLineNow_91 rfl (lv_at hl 1 rfl) ?_
    refine lv_iconst (v := (-1)) hx hb dX8_ofLineNow_92 (by decide) ?_
    refine fw_ciV (As := [.int (-1)]) (rest := []) hC (c_X8_reasonFor l D k ad g hg hp) (cwV 1 hts (gA_V A_816 A_817 A_818 A_601 A_762) rfl rfl rfl (by decide +kernel) ⟨Nat.le_of_ble_eq_true rfl, Nat.le_of_ble_eq_true rfl⟩) (va_recv hK hP (ci := 12) (q0 := 0) rfl rfl) rfl hl.1 rfl (Nat.le_of_ble_eq_true rfl) dX8_ofLineNow_93 ⟨Nat.le_of_ble_eq_true rfl, Nat.le_of_ble_eq_true rfl⟩ hP hD hS Jn.same (fun r4 σ5 H locs hP hD hS hp => ?_)
    have hP : va_P D vwCl (WM k ad g (σ5)) H := hP
    have hD : va_D A (WM k ad g (σ5)) := hD
    refine lv_iload_n hx hb dX8_ofLineNow_96 rfl (lv_at hl 2 rfl) ?_
    refine lv_ishr hx hb dX8_ofLineNow_97 ?_
    refine lv_iconst (v := 1) hx hb dX8_ofLineNow_98 (by decide) ?_
    refine lv_iand hx hb dX8_ofLineNow_99 ?_
    exact hret ((r4 >>> (p1 &&& 31)) &&& 1) (σ5) _ _ _ _ _ _ dX8_ofLineNow_100 rfl hP hD hS (Nat.le_of_ble_eq_true rfl) (Nat.le_of_ble_eq_true rfl) hp
  · have hp := hp.2
    rcases (show j3 = 0 ∨ j3 = 1 ∨ j3 = 2 ∨ j3 = 3 ∨ j3 = 4 ∨ j3 = 5 by omega) with rfl | rfl | rfl | rfl | rfl | rfl
    · have hp := hp.1 ej3
      refine lv_tableIn (tgt := 52) (off := 39) hx hb dX8_ofLineNow_13 (by rw [ej3]; decide) (by rw [ej3]; decide) (by rw [ej3]; rfl) (by decide) ?_
      refine lv_aload_n hx hb dX8_ofLineNow_52 rfl (lv_at hl 0 rfl) ?_
      refine va_getN (D := D) (ci := 11) (C := RX7) (T := TX7) (N := 7) hx hb hts hin_X7 hown hK hP (lnP g j1) (WM_ln k ad g (σ) hj1) rfl 0 (by decide) (va_Nw.use rfl (GG.nf hG (q := (RX8, 79, "MeetjoinModel$Line", "kind", "I", "MeetjoinModel")) 6 rfl)) (fun _ h9 => h9) rfl dX8_ofLineNow_53 ?_
      exact hret ((σ) (100 + j1) 0) (σ) _ _ _ _ _ _ dX8_ofLineNow_56 rfl hP hD hS (Nat.le_of_ble_eq_true rfl) (Nat.le_of_ble_eq_true rfl) hp
    · have hp := hp.2.1 ej3
      refine lv_tableIn (tgt := 57) (off := 44) hx hb dX8_ofLineNow_13 (by rw [ej3]; decide) (by rw [ej3]; decide) (by rw [ej3]; rfl) (by decide) ?_
      refine lv_aload_n hx hb dX8_ofLineNow_57 rfl (lv_at hl 0 rfl) ?_
      refine va_getN (D := D) (ci := 11) (C := RX7) (T := TX7) (N := 7) hx hb hts hin_X7 hown hK hP (lnP g j1) (WM_ln k ad g (σ) hj1) rfl 1 (by decide) (va_Nw.use rfl (GG.nf hG (q := (RX8, 62, "MeetjoinModel$Line", "team", "I", "MeetjoinModel")) 3 rfl)) (fun _ h9 => h9) rfl dX8_ofLineNow_58 ?_
      exact hret ((σ) (100 + j1) 1) (σ) _ _ _ _ _ _ dX8_ofLineNow_61 rfl hP hD hS (Nat.le_of_ble_eq_true rfl) (Nat.le_of_ble_eq_true rfl) hp
    · have hp := hp.2.2.1 ej3
      refine lv_tableIn (tgt := 62) (off := 49) hx hb dX8_ofLineNow_13 (by rw [ej3]; decide) (by rw [ej3]; decide) (by rw [ej3]; rfl) (by decide) ?_
      refine lv_aload_n hx hb dX8_ofLineNow_62 rfl (lv_at hl 0 rfl) ?_
      refine va_getN (D := D) (ci := 11) (C := RX7) (T := TX7) (N := 7) hx hb hts hin_X7 hown hK hP (lnP g j1) (WM_ln k ad g (σ) hj1) rfl 2 (by decide) (va_Nw.use rfl (GG.nf hG (q := (RX8, 65, "MeetjoinModel$Line", "field", "I", "MeetjoinModel")) 4 rfl)) (fun _ h9 => h9) rfl dX8_ofLineNow_63 ?_
      exact hret ((σ) (100 + j1) 2) (σ) _ _ _ _ _ _ dX8_ofLineNow_66 rfl hP hD hS (Nat.le_of_ble_eq_true rfl) (Nat.le_of_ble_eq_true rfl) hp
    · have hp := hp.2.2.2.1 ej3
      refine lv_tableIn (tgt := 67) (off := 54) hx hb dX8_ofLineNow_13 (by rw [ej3]; decide) (by rw [ej3]; decide) (by rw [ej3]; rfl) (by decide) ?_
      refine lv_aload_n hx hb dX8_ofLineNow_67 rfl (lv_at hl 0 rfl) ?_
      refine va_getN (D := D) (ci := 11) (C := RX7) (T := TX7) (N := 7) hx hb hts hin_X7 hown hK hP (lnP g j1) (WM_ln k ad g (σ) hj1) rfl 3 (by decide) (va_Nw.use rfl (GG.nf hG (q := (RX8, 91, "MeetjoinModel$Line", "what", "I", "MeetjoinModel")) 7 rfl)) (fun _ h9 => h9) rfl dX8_ofLineNow_68 ?_
      exact hret ((σ) (100 + j1) 3) (σ) _ _ _ _ _ _ dX8_ofLineNow_71 rfl hP hD hS (Nat.le_of_ble_eq_true rfl) (Nat.le_of_ble_eq_true rfl) hp
    · have hp := hp.2.2.2.2.1 ej3
      refine lv_tableIn (tgt := 72) (off := 59) hx hb dX8_ofLineNow_13 (by rw [ej3]; decide) (by rw [ej3]; decide) (by rw [ej3]; rfl) (by decide) ?_
      refine lv_aload_n hx hb dX8_ofLineNow_72 rfl (lv_at hl 0 rfl) ?_
      refine va_getN (D := D) (ci := 11) (C := RX7) (T := TX7) (N := 7) hx hb hts hin_X7 hown hK hP (lnP g j1) (WM_ln k ad g (σ) hj1) rfl 4 (by decide) (va_Nw.use rfl (GG.nf hG (q := (RX8, 94, "MeetjoinModel$Line", "by", "I", "MeetjoinModel")) 8 rfl)) (fun _ h9 => h9) rfl dX8_ofLineNow_73 ?_
      exact hret ((σ) (100 + j1) 4) (σ) _ _ _ _ _ _ dX8_ofLineNow_76 rfl hP hD hS (Nat.le_of_ble_eq_true rfl) (Nat.le_of_ble_eq_true rfl) hp
    · have hp := hp.2.2.2.2.2 ej3
      refine lv_tableIn (tgt := 77) (off := 64) hx hb dX8_ofLineNow_13 (by rw [ej3]; decide) (by rw [ej3]; decide) (by rw [ej3]; rfl) (by decide) ?_
      refine lv_aload_n hx hb dX8_ofLineNow_77 rfl (lv_at hl 1 rfl) ?_
      refine lv_aload_n hx hb dX8_ofLineNow_78 rfl (lv_at hl 0 rfl) ?_
      refine fw_ciV (As := [.ref (ad (100 + j1))]) (rest := []) hC (c_X8_counts l D k ad g hg hj1 hp) (cwV 1 hts (gA_V A_624 A_625 A_626 A_601 A_609) rfl rfl rfl (by decide +kernel) ⟨Nat.le_of_ble_eq_true rfl, Nat.le_of_ble_eq_true rfl⟩) (va_recv hK hP (ci := 12) (q0 := 0) rfl rfl) rfl hl.1 rfl (Nat.le_of_ble_eq_true rfl) dX8_ofLineNow_79 ⟨Nat.le_of_ble_eq_true rfl, Nat.le_of_ble_eq_true rfl⟩ hP hD hS Jn.same (fun r6 σ7 H locs hP hD hS hp => ?_)
      have hP : va_P D vwCl (WM k ad g (σ7)) H := hP
      have hD : va_D A (WM k ad g (σ7)) := hD
      refine lv_if_eq (tgt := 89) hx hb dX8_ofLineNow_82 (by decide) (fun c8 => ?_) (fun c8 => ?_)
      · have hp := hp.1 c8
        refine lv_iconst (v := 0) hx hb dX8_ofLineNow_89 (by decide) ?_
        exact B_90 0 (σ7) _ _ _  hP hD hS (lv_sub hl [] rfl) hp
      · have hp := hp.2 c8
        refine lv_iconst (v := 1) hx hb dX8_ofLineNow_85 (by decide) ?_
        refine lv_goto (tgt := 90) hx hb dX8_ofLineNow_86 (by decide) ?_
        exact B_90 1 (σ7) _ _ _  hP hD hS (lv_sub hl [] rfl) hp
def q_X8_ofLine_43 (n : Nat) (c : Nat) (post : Int32 → Mem → Prop)  (s0 : Int32) (σ : Mem) : Prop := post s0 (σ)
def q_X8_ofLine (n : Nat) (c : Nat) (post : Int32 → Mem → Prop) (p1 : Int32) (p2 : Int32) (σ : Mem) : Prop := (∀ σ1 : Mem, σ1 = mst (σ) 0 0 0 → (q_X8_isLine n c (fun (r2 : Int32) (σ3 : Mem) => ((r2 ≠ 0 → (q_X8_is (fun (r5 : Int32) (σ6 : Mem) => ((r5 = 0 → (q_X8_refuse n c (fun (r8 : Int32) (σ9 : Mem) => (q_X8_ofLine_43 n c post) r8 (σ9)) 2 (σ3))) ∧ (¬ (r5 = 0) → (q_X8_ofLineNow n c (fun (r10 : Int32) (σ11 : Mem) => (q_X8_ofLine_43 n c post) r10 (σ11)) p1 p2 (σ3))))) p2 0 6 (σ3))) ∧ (r2 = 0 → (q_X8_refuse n c (fun (r12 : Int32) (σ13 : Mem) => post r12 (σ13)) 1 (σ3))))) p1 (σ1)))
abbrev rm_X8_ofLine : Room := { frames := 8, cells := 0, slots := 0, locals := 356 }
abbrev wq_X8_ofLine : List Cond := Cond.code yX8_ofLine cX8_ofLine 3 (some .int) :: wALL
set_option maxHeartbeats 4000000 in
set_option maxRecDepth 100000 in
theorem c_X8_ofLine (l : Launch) (D : va_G) (k ad g : Nat → Nat) (hg : gok g) {sz : Nat} {σ : Mem} {p1 : Int32} {p2 : Int32} {post : Int32 → Mem → Prop} (hp : q_X8_ofLine (g 0) (g 2) post p1 p2 σ) : Met l yX8_ofLine wq_X8_ofLine rm_X8_ofLine (va_Pc [.ref (ad 0), .int p1, .int p2] (Pw D k (WM k ad g (σ)) sz)) (va_Qi post (fun u => Bw D (WM k ad g (σ)) sz (WM k ad g u)) (va_A (WM k ad g (σ)) sz)) 0 0 (va_A (WM k ad g (σ)) sz) := by
  refine fw_i (wf := fun u : Mem => WM k ad g u) (by decide) rfl (Nat.le_of_ble_eq_true rfl) ?_
  intro p e s m args below meth c A Q ls hC hP hD hl hret
  obtain ⟨⟨hx, hb, hml, hown, hts⟩, hG, hA⟩ := id hC
  have hK := hG.1
  have hS : va_S A s.heap s.heap [] := va_S.rf
  have hin_X8 : ∀ w ∈ u_ws RX8 TX8 15, w ∈ wq_X8_ofLine := fun w h => List.mem_cons_of_mem _ (iU_X8 w h)
  have hf_41 := hts _ (List.mem_cons_of_mem _ A_595)
  have hl : lv_has ls 3 [(0, .ref (ad 0)), (1, .int p1), (2, .int p2)] := hl
  have hown : s.vm.findClass RX8 = some m.cls := hown
  unfold q_X8_ofLine at hp
  have B_43 : ∀ (s0 : Int32) (σ : Mem) (H : Heap) (locs : List Loc) (ls : Array Slot), va_P D vwCl (WM k ad g (σ)) H → va_D A (WM k ad g (σ)) → va_S A s.heap H locs → lv_has ls 3 [] → (q_X8_ofLine_43 (g 0) (g 2) post) s0 σ → W p l e rm_X8_ofLine s m args below meth c H locs 0 0 Q (F0 m 43 ls [.int s0]) := by
    intro s0 σ H locs ls hP hD hS hl hp
    unfold q_X8_ofLine_43 at hp
    exact hret s0 (σ) _ _ _ _ _ _ dX8_ofLine_43 rfl hP hD hS (Nat.le_of_ble_eq_true rfl) (Nat.le_of_ble_eq_true rfl) hp
  refine lv_aload_n hx hb dX8_ofLine_0 rfl (lv_at hl 0 rfl) ?_
  refine lv_iconst (v := 0) hx hb dX8_ofLine_1 (by decide) ?_
  refine va_put (D := D) (ci := 12) (v := .int 0) (ty := .int) (C := RX8) (T := TX8) (N := 15) hx hb hts hin_X8 tyX8 tyX8_ok nmX8 hown hK hP hD hS 0 rfl rfl 0 (by decide) hf_41 (fun _ h9 => h9) rfl (by decide +kernel) rfl rfl (Nat.le_of_ble_eq_true rfl) dX8_ofLine_2 (fun H locs hP hD hS => ?_)
  obtain ⟨σ1, eσ1⟩ : ∃ z : Mem, z = mst (σ) 0 0 0 := ⟨_, rfl⟩
  have hp := hp σ1 eσ1
  have hP : va_P D vwCl (WM k ad g (σ1)) H := by rw [eσ1, WM_s (by decide)]; exact hP
  have hD : va_D A (WM k ad g (σ1)) := by rw [eσ1, WM_s (by decide)]; exact hD
  refine lv_aload_n hx hb dX8_ofLine_5 rfl (lv_at hl 0 rfl) ?_
  refine lv_iload_n hx hb dX8_ofLine_6 rfl (lv_at hl 1 rfl) ?_
  refine fw_ciV (As := [.int p1]) (rest := []) hC (c_X8_isLine l D k ad g hg hp) (cwV 1 hts (gA_V A_681 A_682 A_683 A_601 A_604) rfl rfl rfl (by decide +kernel) ⟨Nat.le_of_ble_eq_true rfl, Nat.le_of_ble_eq_true rfl⟩) (va_recv hK hP (ci := 12) (q0 := 0) rfl rfl) rfl hl.1 rfl (Nat.le_of_ble_eq_true rfl) dX8_ofLine_7 ⟨Nat.le_of_ble_eq_true rfl, Nat.le_of_ble_eq_true rfl⟩ hP hD hS Jn.same (fun r2 σ3 H locs hP hD hS hp => ?_)
  have hP : va_P D vwCl (WM k ad g (σ3)) H := hP
  have hD : va_D A (WM k ad g (σ3)) := hD
  refine lv_if_ne (tgt := 19) hx hb dX8_ofLine_10 (by decide) (fun c4 => ?_) (fun c4 => ?_)
  · have hp := hp.1 c4
    refine lv_iload_n hx hb dX8_ofLine_19 rfl (lv_at hl 2 rfl) ?_
    refine lv_iconst (v := 0) hx hb dX8_ofLine_20 (by decide) ?_
    refine lv_bipush (v := 6) hx hb dX8_ofLine_21 (by decide) ?_
    refine fw_ciS (As := [.int p2, .int 0, .int 6]) (rest := []) hC (c_X8_is l D k hp) (va_cwS 3 hts (gA_S A_599 A_600 A_601 A_596) rfl rfl rfl (by decide +kernel) ⟨Nat.le_of_ble_eq_true rfl, Nat.le_of_ble_eq_true rfl⟩) rfl hl.1 rfl (Nat.le_of_ble_eq_true rfl) dX8_ofLine_23 ⟨Nat.le_of_ble_eq_true rfl, Nat.le_of_ble_eq_true rfl⟩ P_nil D_nil hS (Jn.pure (w0 := fun _ : Mem => []) hP hD) (fun r5 σ6 H locs hP hD hS hp => ?_)
    have hP : va_P D vwCl (WM k ad g (σ3)) H := hP
    have hD : va_D A (WM k ad g (σ3)) := hD
    refine lv_if_eq (tgt := 38) hx hb dX8_ofLine_26 (by decide) (fun c7 => ?_) (fun c7 => ?_)
    · have hp := hp.1 c7
      refine lv_aload_n hx hb dX8_ofLine_38 rfl (lv_at hl 0 rfl) ?_
      refine lv_iconst (v := 2) hx hb dX8_ofLine_39 (by decide) ?_
      refine fw_ciV (As := [.int 2]) (rest := []) hC (c_X8_refuse l D k ad g hg hp) (cwV 1 hts (gA_V A_629 A_630 A_631 A_601 A_594) rfl rfl rfl (by decide +kernel) ⟨Nat.le_of_ble_eq_true rfl, Nat.le_of_ble_eq_true rfl⟩) (va_recv hK hP (ci := 12) (q0 := 0) rfl rfl) rfl hl.1 rfl (Nat.le_of_ble_eq_true rfl) dX8_ofLine_40 ⟨Nat.le_of_ble_eq_true rfl, Nat.le_of_ble_eq_true rfl⟩ hP hD hS Jn.same (fun r8 σ9 H locs hP hD hS hp => ?_)
      have hP : va_P D vwCl (WM k ad g (σ9)) H := hP
      have hD : va_D A (WM k ad g (σ9)) := hD
      exact B_43 r8 (σ9) _ _ _  hP hD hS (lv_sub hl [] rfl) hp
    · have hp := hp.2 c7
      refine lv_aload_n hx hb dX8_ofLine_29 rfl (lv_at hl 0 rfl) ?_
      refine lv_iload_n hx hb dX8_ofLine_30 rfl (lv_at hl 1 rfl) ?_
      refine lv_iload_n hx hb dX8_ofLine_31 rfl (lv_at hl 2 rfl) ?_
      refine fw_ciV (As := [.int p1, .int p2]) (rest := []) hC (c_X8_ofLineNow l D k ad g hg hp) (cwV 2 hts (gA_V A_820 A_821 A_822 A_601 A_819) rfl rfl rfl (by decide +kernel) ⟨Nat.le_of_ble_eq_true rfl, Nat.le_of_ble_eq_true rfl⟩) (va_recv hK hP (ci := 12) (q0 := 0) rfl rfl) rfl hl.1 rfl (Nat.le_of_ble_eq_true rfl) dX8_ofLine_32 ⟨Nat.le_of_ble_eq_true rfl, Nat.le_of_ble_eq_true rfl⟩ hP hD hS Jn.same (fun r10 σ11 H locs hP hD hS hp => ?_)
      have hP : va_P D vwCl (WM k ad g (σ11)) H := hP
      have hD : va_D A (WM k ad g (σ11)) := hD
      refine lv_goto (tgt := 43) hx hb dX8_ofLine_35 (by decide) ?_
      exact B_43 r10 (σ11) _ _ _  hP hD hS (lv_sub hl [] rfl) hp
  · have hp := hp.2 c4
    refine lv_aload_n hx hb dX8_ofLine_13 rfl (lv_at hl 0 rfl) ?_
    refine lv_iconst (v := 1) hx hb dX8_ofLine_14 (by decide) ?_
    refine fw_ciV (As := [.int 1]) (rest := []) hC (c_X8_refuse l D k ad g hg hp) (cwV 1 hts (gA_V A_629 A_630 A_631 A_601 A_594) rfl rfl rfl (by decide +kernel) ⟨Nat.le_of_ble_eq_true rfl, Nat.le_of_ble_eq_true rfl⟩) (va_recv hK hP (ci := 12) (q0 := 0) rfl rfl) rfl hl.1 rfl (Nat.le_of_ble_eq_true rfl) dX8_ofLine_15 ⟨Nat.le_of_ble_eq_true rfl, Nat.le_of_ble_eq_true rfl⟩ hP hD hS Jn.same (fun r12 σ13 H locs hP hD hS hp => ?_)
    have hP : va_P D vwCl (WM k ad g (σ13)) H := hP
    have hD : va_D A (WM k ad g (σ13)) := hD
    exact hret r12 (σ13) _ _ _ _ _ _ dX8_ofLine_18 rfl hP hD hS (Nat.le_of_ble_eq_true rfl) (Nat.le_of_ble_eq_true rfl) hp
def q_X8_ofMachineNow_34 (n : Nat) (c : Nat) (post : Int32 → Mem → Prop)  (s0 : Int32) (σ : Mem) : Prop := post s0 (σ)
def q_X8_ofMachineNow (n : Nat) (c : Nat) (post : Int32 → Mem → Prop) (p1 : Int32) (p2 : Int32) (σ : Mem) : Prop := ((p2 ≠ 0 → ((p2 ≠ 1 → (q_X8_drifting n c (fun (r3 : Int32) (σ4 : Mem) => (q_X8_ofMachineNow_34 n c post) r3 (σ4)) p1 (σ))) ∧ (p2 = 1 → (q_X8_drifting n c (fun (r5 : Int32) (σ6 : Mem) => (q_J6_bitCount_0f7a4 (fun (r7 : Int32) (σ8 : Mem) => (q_X8_ofMachineNow_34 n c post) r7 (σ6)) r5 (σ6))) p1 (σ))))) ∧ (p2 = 0 → (vp_in p1 6 ∧ (q_X8_ofMachineNow_34 n c post) ((σ) 5 p1.toNatClampNeg) (σ))))
abbrev rm_X8_ofMachineNow : Room := { frames := 6, cells := 0, slots := 0, locals := 305 }
abbrev wq_X8_ofMachineNow : List Cond := Cond.code yX8_ofMachineNow cX8_ofMachineNow 3 (some .int) :: wALL
set_option maxHeartbeats 4000000 in
set_option maxRecDepth 100000 in
theorem c_X8_ofMachineNow (l : Launch) (D : va_G) (k ad g : Nat → Nat) (hg : gok g) {sz : Nat} {σ : Mem} {p1 : Int32} {p2 : Int32} {post : Int32 → Mem → Prop} (hp : q_X8_ofMachineNow (g 0) (g 2) post p1 p2 σ) : Met l yX8_ofMachineNow wq_X8_ofMachineNow rm_X8_ofMachineNow (va_Pc [.ref (ad 0), .int p1, .int p2] (Pw D k (WM k ad g (σ)) sz)) (va_Qi post (fun u => Bw D (WM k ad g (σ)) sz (WM k ad g u)) (va_A (WM k ad g (σ)) sz)) 0 0 (va_A (WM k ad g (σ)) sz) := by
  refine fw_i (wf := fun u : Mem => WM k ad g u) (by decide) rfl (Nat.le_of_ble_eq_true rfl) ?_
  intro p e s m args below meth c A Q ls hC hP hD hl hret
  obtain ⟨⟨hx, hb, hml, hown, hts⟩, hG, hA⟩ := id hC
  have hK := hG.1
  have hS : va_S A s.heap s.heap [] := va_S.rf
  have hin_X8 : ∀ w ∈ u_ws RX8 TX8 15, w ∈ wq_X8_ofMachineNow := fun w h => List.mem_cons_of_mem _ (iU_X8 w h)
  have hf_26 := hts _ (List.mem_cons_of_mem _ A_586)
  have hl : lv_has ls 3 [(0, .ref (ad 0)), (1, .int p1), (2, .int p2)] := hl
  have hown : s.vm.findClass RX8 = some m.cls := hown
  unfold q_X8_ofMachineNow at hp
  have B_34 : ∀ (s0 : Int32) (σ : Mem) (H : Heap) (locs : List Loc) (ls : Array Slot), va_P D vwCl (WM k ad g (σ)) H → va_D A (WM k ad g (σ)) → va_S A s.heap H locs → lv_has ls 3 [] → (q_X8_ofMachineNow_34 (g 0) (g 2) post) s0 σ → W p l e rm_X8_ofMachineNow s m args below meth c H locs 0 0 Q (F0 m 34 ls [.int s0]) := by
    intro s0 σ H locs ls hP hD hS hl hp
    unfold q_X8_ofMachineNow_34 at hp
    exact hret s0 (σ) _ _ _ _ _ _ dX8_ofMachineNow_34 rfl hP hD hS (Nat.le_of_ble_eq_true rfl) (Nat.le_of_ble_eq_true rfl) hp
  refine lv_iload_n hx hb dX8_ofMachineNow_0 rfl (lv_at hl 2 rfl) ?_
  refine lv_if_ne (tgt := 13) hx hb dX8_ofMachineNow_1 (by decide) (fun c1 => ?_) (fun c1 => ?_)
  · have hp := hp.1 c1
    refine lv_iload_n hx hb dX8_ofMachineNow_13 rfl (lv_at hl 2 rfl) ?_
    refine lv_iconst (v := 1) hx hb dX8_ofMachineNow_14 (by decide) ?_
    refine lv_icmp_ne (tgt := 29) hx hb dX8_ofMachineNow_15 (by decide) (fun c2 => ?_) (fun c2 => ?_)
    · have hp := hp.1 c2
      refine lv_aload_n hx hb dX8_ofMachineNow_29 rfl (lv_at hl 0 rfl) ?_
      refine lv_iload_n hx hb dX8_ofMachineNow_30 rfl (lv_at hl 1 rfl) ?_
      refine fw_ciV (As := [.int p1]) (rest := []) hC (c_X8_drifting l D k ad g hg hp) (cwV 1 hts (gA_V A_788 A_789 A_790 A_601 A_787) rfl rfl rfl (by decide +kernel) ⟨Nat.le_of_ble_eq_true rfl, Nat.le_of_ble_eq_true rfl⟩) (va_recv hK hP (ci := 12) (q0 := 0) rfl rfl) rfl hl.1 rfl (Nat.le_of_ble_eq_true rfl) dX8_ofMachineNow_31 ⟨Nat.le_of_ble_eq_true rfl, Nat.le_of_ble_eq_true rfl⟩ hP hD hS Jn.same (fun r3 σ4 H locs hP hD hS hp => ?_)
      have hP : va_P D vwCl (WM k ad g (σ4)) H := hP
      have hD : va_D A (WM k ad g (σ4)) := hD
      exact B_34 r3 (σ4) _ _ _  hP hD hS (lv_sub hl [] rfl) hp
    · have hp := hp.2 c2
      refine lv_aload_n hx hb dX8_ofMachineNow_18 rfl (lv_at hl 0 rfl) ?_
      refine lv_iload_n hx hb dX8_ofMachineNow_19 rfl (lv_at hl 1 rfl) ?_
      refine fw_ciV (As := [.int p1]) (rest := []) hC (c_X8_drifting l D k ad g hg hp) (cwV 1 hts (gA_V A_788 A_789 A_790 A_601 A_787) rfl rfl rfl (by decide +kernel) ⟨Nat.le_of_ble_eq_true rfl, Nat.le_of_ble_eq_true rfl⟩) (va_recv hK hP (ci := 12) (q0 := 0) rfl rfl) rfl hl.1 rfl (Nat.le_of_ble_eq_true rfl) dX8_ofMachineNow_20 ⟨Nat.le_of_ble_eq_true rfl, Nat.le_of_ble_eq_true rfl⟩ hP hD hS Jn.same (fun r5 σ6 H locs hP hD hS hp => ?_)
      have hP : va_P D vwCl (WM k ad g (σ6)) H := hP
      have hD : va_D A (WM k ad g (σ6)) := hD
      refine fw_ciS (As := [.int r5]) (rest := []) hC (c_J6_bitCount_0f7a4 l D k hp) (va_cwS 1 hts (gA_S A_695 A_149 A_150 A_141) rfl rfl rfl (by decide +kernel) ⟨Nat.le_of_ble_eq_true rfl, Nat.le_of_ble_eq_true rfl⟩) rfl hl.1 rfl (Nat.le_of_ble_eq_true rfl) dX8_ofMachineNow_23 ⟨Nat.le_of_ble_eq_true rfl, Nat.le_of_ble_eq_true rfl⟩ P_nil D_nil hS (Jn.pure (w0 := fun _ : Mem => []) hP hD) (fun r7 σ8 H locs hP hD hS hp => ?_)
      have hP : va_P D vwCl (WM k ad g (σ6)) H := hP
      have hD : va_D A (WM k ad g (σ6)) := hD
      refine lv_goto (tgt := 34) hx hb dX8_ofMachineNow_26 (by decide) ?_
      exact B_34 r7 (σ6) _ _ _  hP hD hS (lv_sub hl [] rfl) hp
  · have hp := hp.2 c1
    refine lv_aload_n hx hb dX8_ofMachineNow_4 rfl (lv_at hl 0 rfl) ?_
    refine va_get (D := D) (ci := 12) (C := RX8) (T := TX8) (N := 15) hx hb hts hin_X8 hown hK hP 0 rfl rfl 6 (by decide) hf_26 (fun _ h9 => h9) rfl dX8_ofMachineNow_5 ?_
    refine lv_iload_n hx hb dX8_ofMachineNow_8 rfl (lv_at hl 1 rfl) ?_
    obtain ⟨h9, hp⟩ := hp
    refine va_iald hx hb hK hP 5 0 rfl rfl h9 dX8_ofMachineNow_9 ?_
    refine lv_goto (tgt := 34) hx hb dX8_ofMachineNow_10 (by decide) ?_
    exact B_34 ((σ) 5 p1.toNatClampNeg) (σ) _ _ _  hP hD hS (lv_sub hl [] rfl) hp
def q_X8_ofMachine_41 (n : Nat) (c : Nat) (post : Int32 → Mem → Prop)  (s0 : Int32) (σ : Mem) : Prop := post s0 (σ)
def q_X8_ofMachine (n : Nat) (c : Nat) (post : Int32 → Mem → Prop) (p1 : Int32) (p2 : Int32) (σ : Mem) : Prop := (∀ σ1 : Mem, σ1 = mst (σ) 0 0 0 → (q_X8_isMachine (fun (r2 : Int32) (σ3 : Mem) => ((r2 ≠ 0 → (q_X8_is (fun (r5 : Int32) (σ6 : Mem) => ((r5 = 0 → (q_X8_refuse n c (fun (r8 : Int32) (σ9 : Mem) => (q_X8_ofMachine_41 n c post) r8 (σ9)) 2 (σ1))) ∧ (¬ (r5 = 0) → (q_X8_ofMachineNow n c (fun (r10 : Int32) (σ11 : Mem) => (q_X8_ofMachine_41 n c post) r10 (σ11)) p1 p2 (σ1))))) p2 0 2 (σ1))) ∧ (r2 = 0 → (q_X8_refuse n c (fun (r12 : Int32) (σ13 : Mem) => post r12 (σ13)) 1 (σ1))))) p1 (σ1)))
abbrev rm_X8_ofMachine : Room := { frames := 7, cells := 0, slots := 0, locals := 327 }
abbrev wq_X8_ofMachine : List Cond := Cond.code yX8_ofMachine cX8_ofMachine 3 (some .int) :: wALL
set_option maxHeartbeats 4000000 in
set_option maxRecDepth 100000 in
theorem c_X8_ofMachine (l : Launch) (D : va_G) (k ad g : Nat → Nat) (hg : gok g) {sz : Nat} {σ : Mem} {p1 : Int32} {p2 : Int32} {post : Int32 → Mem → Prop} (hp : q_X8_ofMachine (g 0) (g 2) post p1 p2 σ) : Met l yX8_ofMachine wq_X8_ofMachine rm_X8_ofMachine (va_Pc [.ref (ad 0), .int p1, .int p2] (Pw D k (WM k ad g (σ)) sz)) (va_Qi post (fun u => Bw D (WM k ad g (σ)) sz (WM k ad g u)) (va_A (WM k ad g (σ)) sz)) 0 0 (va_A (WM k ad g (σ)) sz) := by
  refine fw_i (wf := fun u : Mem => WM k ad g u) (by decide) rfl (Nat.le_of_ble_eq_true rfl) ?_
  intro p e s m args below meth c A Q ls hC hP hD hl hret
  obtain ⟨⟨hx, hb, hml, hown, hts⟩, hG, hA⟩ := id hC
  have hK := hG.1
  have hS : va_S A s.heap s.heap [] := va_S.rf
  have hin_X8 : ∀ w ∈ u_ws RX8 TX8 15, w ∈ wq_X8_ofMachine := fun w h => List.mem_cons_of_mem _ (iU_X8 w h)
  have hf_41 := hts _ (List.mem_cons_of_mem _ A_595)
  have hl : lv_has ls 3 [(0, .ref (ad 0)), (1, .int p1), (2, .int p2)] := hl
  have hown : s.vm.findClass RX8 = some m.cls := hown
  unfold q_X8_ofMachine at hp
  have B_41 : ∀ (s0 : Int32) (σ : Mem) (H : Heap) (locs : List Loc) (ls : Array Slot), va_P D vwCl (WM k ad g (σ)) H → va_D A (WM k ad g (σ)) → va_S A s.heap H locs → lv_has ls 3 [] → (q_X8_ofMachine_41 (g 0) (g 2) post) s0 σ → W p l e rm_X8_ofMachine s m args below meth c H locs 0 0 Q (F0 m 41 ls [.int s0]) := by
    intro s0 σ H locs ls hP hD hS hl hp
    unfold q_X8_ofMachine_41 at hp
    exact hret s0 (σ) _ _ _ _ _ _ dX8_ofMachine_41 rfl hP hD hS (Nat.le_of_ble_eq_true rfl) (Nat.le_of_ble_eq_true rfl) hp
  refine lv_aload_n hx hb dX8_ofMachine_0 rfl (lv_at hl 0 rfl) ?_
  refine lv_iconst (v := 0) hx hb dX8_ofMachine_1 (by decide) ?_
  refine va_put (D := D) (ci := 12) (v := .int 0) (ty := .int) (C := RX8) (T := TX8) (N := 15) hx hb hts hin_X8 tyX8 tyX8_ok nmX8 hown hK hP hD hS 0 rfl rfl 0 (by decide) hf_41 (fun _ h9 => h9) rfl (by decide +kernel) rfl rfl (Nat.le_of_ble_eq_true rfl) dX8_ofMachine_2 (fun H locs hP hD hS => ?_)
  obtain ⟨σ1, eσ1⟩ : ∃ z : Mem, z = mst (σ) 0 0 0 := ⟨_, rfl⟩
  have hp := hp σ1 eσ1
  have hP : va_P D vwCl (WM k ad g (σ1)) H := by rw [eσ1, WM_s (by decide)]; exact hP
  have hD : va_D A (WM k ad g (σ1)) := by rw [eσ1, WM_s (by decide)]; exact hD
  refine lv_iload_n hx hb dX8_ofMachine_5 rfl (lv_at hl 1 rfl) ?_
  refine fw_ciS (As := [.int p1]) (rest := []) hC (c_X8_isMachine l D k hp) (va_cwS 1 hts (gA_S A_793 A_794 A_601 A_608) rfl rfl rfl (by decide +kernel) ⟨Nat.le_of_ble_eq_true rfl, Nat.le_of_ble_eq_true rfl⟩) rfl hl.1 rfl (Nat.le_of_ble_eq_true rfl) dX8_ofMachine_6 ⟨Nat.le_of_ble_eq_true rfl, Nat.le_of_ble_eq_true rfl⟩ P_nil D_nil hS (Jn.pure (w0 := fun _ : Mem => []) hP hD) (fun r2 σ3 H locs hP hD hS hp => ?_)
  have hP : va_P D vwCl (WM k ad g (σ1)) H := hP
  have hD : va_D A (WM k ad g (σ1)) := hD
  refine lv_if_ne (tgt := 18) hx hb dX8_ofMachine_9 (by decide) (fun c4 => ?_) (fun c4 => ?_)
  · have hp := hp.1 c4
    refine lv_iload_n hx hb dX8_ofMachine_18 rfl (lv_at hl 2 rfl) ?_
    refine lv_iconst (v := 0) hx hb dX8_ofMachine_19 (by decide) ?_
    refine lv_iconst (v := 2) hx hb dX8_ofMachine_20 (by decide) ?_
    refine fw_ciS (As := [.int p2, .int 0, .int 2]) (rest := []) hC (c_X8_is l D k hp) (va_cwS 3 hts (gA_S A_599 A_600 A_601 A_596) rfl rfl rfl (by decide +kernel) ⟨Nat.le_of_ble_eq_true rfl, Nat.le_of_ble_eq_true rfl⟩) rfl hl.1 rfl (Nat.le_of_ble_eq_true rfl) dX8_ofMachine_21 ⟨Nat.le_of_ble_eq_true rfl, Nat.le_of_ble_eq_true rfl⟩ P_nil D_nil hS (Jn.pure (w0 := fun _ : Mem => []) hP hD) (fun r5 σ6 H locs hP hD hS hp => ?_)
    have hP : va_P D vwCl (WM k ad g (σ1)) H := hP
    have hD : va_D A (WM k ad g (σ1)) := hD
    refine lv_if_eq (tgt := 36) hx hb dX8_ofMachine_24 (by decide) (fun c7 => ?_) (fun c7 => ?_)
    · have hp := hp.1 c7
      refine lv_aload_n hx hb dX8_ofMachine_36 rfl (lv_at hl 0 rfl) ?_
      refine lv_iconst (v := 2) hx hb dX8_ofMachine_37 (by decide) ?_
      refine fw_ciV (As := [.int 2]) (rest := []) hC (c_X8_refuse l D k ad g hg hp) (cwV 1 hts (gA_V A_629 A_630 A_631 A_601 A_594) rfl rfl rfl (by decide +kernel) ⟨Nat.le_of_ble_eq_true rfl, Nat.le_of_ble_eq_true rfl⟩) (va_recv hK hP (ci := 12) (q0 := 0) rfl rfl) rfl hl.1 rfl (Nat.le_of_ble_eq_true rfl) dX8_ofMachine_38 ⟨Nat.le_of_ble_eq_true rfl, Nat.le_of_ble_eq_true rfl⟩ hP hD hS Jn.same (fun r8 σ9 H locs hP hD hS hp => ?_)
      have hP : va_P D vwCl (WM k ad g (σ9)) H := hP
      have hD : va_D A (WM k ad g (σ9)) := hD
      exact B_41 r8 (σ9) _ _ _  hP hD hS (lv_sub hl [] rfl) hp
    · have hp := hp.2 c7
      refine lv_aload_n hx hb dX8_ofMachine_27 rfl (lv_at hl 0 rfl) ?_
      refine lv_iload_n hx hb dX8_ofMachine_28 rfl (lv_at hl 1 rfl) ?_
      refine lv_iload_n hx hb dX8_ofMachine_29 rfl (lv_at hl 2 rfl) ?_
      refine fw_ciV (As := [.int p1, .int p2]) (rest := []) hC (c_X8_ofMachineNow l D k ad g hg hp) (cwV 2 hts (gA_V A_825 A_826 A_827 A_601 A_824) rfl rfl rfl (by decide +kernel) ⟨Nat.le_of_ble_eq_true rfl, Nat.le_of_ble_eq_true rfl⟩) (va_recv hK hP (ci := 12) (q0 := 0) rfl rfl) rfl hl.1 rfl (Nat.le_of_ble_eq_true rfl) dX8_ofMachine_30 ⟨Nat.le_of_ble_eq_true rfl, Nat.le_of_ble_eq_true rfl⟩ hP hD hS Jn.same (fun r10 σ11 H locs hP hD hS hp => ?_)
      have hP : va_P D vwCl (WM k ad g (σ11)) H := hP
      have hD : va_D A (WM k ad g (σ11)) := hD
      refine lv_goto (tgt := 41) hx hb dX8_ofMachine_33 (by decide) ?_
      exact B_41 r10 (σ11) _ _ _  hP hD hS (lv_sub hl [] rfl) hp
  · have hp := hp.2 c4
    refine lv_aload_n hx hb dX8_ofMachine_12 rfl (lv_at hl 0 rfl) ?_
    refine lv_iconst (v := 1) hx hb dX8_ofMachine_13 (by decide) ?_
    refine fw_ciV (As := [.int 1]) (rest := []) hC (c_X8_refuse l D k ad g hg hp) (cwV 1 hts (gA_V A_629 A_630 A_631 A_601 A_594) rfl rfl rfl (by decide +kernel) ⟨Nat.le_of_ble_eq_true rfl, Nat.le_of_ble_eq_true rfl⟩) (va_recv hK hP (ci := 12) (q0 := 0) rfl rfl) rfl hl.1 rfl (Nat.le_of_ble_eq_true rfl) dX8_ofMachine_14 ⟨Nat.le_of_ble_eq_true rfl, Nat.le_of_ble_eq_true rfl⟩ hP hD hS Jn.same (fun r12 σ13 H locs hP hD hS hp => ?_)
    have hP : va_P D vwCl (WM k ad g (σ13)) H := hP
    have hD : va_D A (WM k ad g (σ13)) := hD
    exact hret r12 (σ13) _ _ _ _ _ _ dX8_ofMachine_17 rfl hP hD hS (Nat.le_of_ble_eq_true rfl) (Nat.le_of_ble_eq_true rfl) hp
def q_X8_has_38 (n : Nat) (c : Nat) (post : Int32 → Mem → Prop)  (s0 : Int32) (σ : Mem) : Prop := post s0 (σ)
def q_X8_has_33 (n : Nat) (c : Nat) (post : Int32 → Mem → Prop)  (σ : Mem) : Prop := (q_X8_refuse n c (fun (r1001 : Int32) (σ1002 : Mem) => (q_X8_has_38 n c post) r1001 (σ1002)) 1 (σ))
def q_X8_has (n : Nat) (c : Nat) (post : Int32 → Mem → Prop) (p1 : Int32) (p2 : Int32) (σ : Mem) : Prop := (∀ σ1 : Mem, σ1 = mst (σ) 0 0 0 → (q_X8_isMachine (fun (r2 : Int32) (σ3 : Mem) => ((r2 = 0 → (q_X8_has_33 n c post) (σ1)) ∧ (¬ (r2 = 0) → (q_X8_isField n c (fun (r5 : Int32) (σ6 : Mem) => ((r5 = 0 → (q_X8_has_33 n c post) (σ6)) ∧ (¬ (r5 = 0) → (vp_in ((p1 * 5) + p2) 30 ∧ (q_X8_has_38 n c post) ((σ6) 6 (((p1 * 5) + p2).toNatClampNeg)) (σ6))))) p2 (σ1))))) p1 (σ1)))
abbrev rm_X8_has : Room := { frames := 2, cells := 0, slots := 0, locals := 43 }
abbrev wq_X8_has : List Cond := Cond.code yX8_has cX8_has 3 (some .int) :: wALL
set_option maxHeartbeats 4000000 in
set_option maxRecDepth 100000 in
theorem c_X8_has (l : Launch) (D : va_G) (k ad g : Nat → Nat) (hg : gok g) {sz : Nat} {σ : Mem} {p1 : Int32} {p2 : Int32} {post : Int32 → Mem → Prop} (hp : q_X8_has (g 0) (g 2) post p1 p2 σ) : Met l yX8_has wq_X8_has rm_X8_has (va_Pc [.ref (ad 0), .int p1, .int p2] (Pw D k (WM k ad g (σ)) sz)) (va_Qi post (fun u => Bw D (WM k ad g (σ)) sz (WM k ad g u)) (va_A (WM k ad g (σ)) sz)) 0 0 (va_A (WM k ad g (σ)) sz) := by
  refine fw_i (wf := fun u : Mem => WM k ad g u) (by decide) rfl (Nat.le_of_ble_eq_true rfl) ?_
  intro p e s m args below meth c A Q ls hC hP hD hl hret
  obtain ⟨⟨hx, hb, hml, hown, hts⟩, hG, hA⟩ := id hC
  have hK := hG.1
  have hS : va_S A s.heap s.heap [] := va_S.rf
  have hin_X8 : ∀ w ∈ u_ws RX8 TX8 15, w ∈ wq_X8_has := fun w h => List.mem_cons_of_mem _ (iU_X8 w h)
  have hf_41 := hts _ (List.mem_cons_of_mem _ A_595)
  have hf_29 := hts _ (List.mem_cons_of_mem _ A_587)
  have hl : lv_has ls 3 [(0, .ref (ad 0)), (1, .int p1), (2, .int p2)] := hl
  have hown : s.vm.findClass RX8 = some m.cls := hown
  unfold q_X8_has at hp
  have B_38 : ∀ (s0 : Int32) (σ : Mem) (H : Heap) (locs : List Loc) (ls : Array Slot), va_P D vwCl (WM k ad g (σ)) H → va_D A (WM k ad g (σ)) → va_S A s.heap H locs → lv_has ls 3 [] → (q_X8_has_38 (g 0) (g 2) post) s0 σ → W p l e rm_X8_has s m args below meth c H locs 0 0 Q (F0 m 38 ls [.int s0]) := by
    intro s0 σ H locs ls hP hD hS hl hp
    unfold q_X8_has_38 at hp
    exact hret s0 (σ) _ _ _ _ _ _ dX8_has_38 rfl hP hD hS (Nat.le_of_ble_eq_true rfl) (Nat.le_of_ble_eq_true rfl) hp
  have B_33 : ∀  (σ : Mem) (H : Heap) (locs : List Loc) (ls : Array Slot), va_P D vwCl (WM k ad g (σ)) H → va_D A (WM k ad g (σ)) → va_S A s.heap H locs → lv_has ls 3 [(0, .ref (ad 0))] → (q_X8_has_33 (g 0) (g 2) post)  σ → W p l e rm_X8_has s m args below meth c H locs 0 0 Q (F0 m 33 ls []) := by
    intro  σ H locs ls hP hD hS hl hp
    unfold q_X8_has_33 at hp
    refine lv_aload_n hx hb dX8_has_33 rfl (lv_at hl 0 rfl) ?_
    refine lv_iconst (v := 1) hx hb dX8_has_34 (by decide) ?_
    refine fw_ciV (As := [.int 1]) (rest := []) hC (c_X8_refuse l D k ad g hg hp) (cwV 1 hts (gA_V A_629 A_630 A_631 A_601 A_594) rfl rfl rfl (by decide +kernel) ⟨Nat.le_of_ble_eq_true rfl, Nat.le_of_ble_eq_true rfl⟩) (va_recv hK hP (ci := 12) (q0 := 0) rfl rfl) rfl hl.1 rfl (Nat.le_of_ble_eq_true rfl) dX8_has_35 ⟨Nat.le_of_ble_eq_true rfl, Nat.le_of_ble_eq_true rfl⟩ hP hD hS Jn.same (fun r10001 σ10002 H locs hP hD hS hp => ?_)
    have hP : va_P D vwCl (WM k ad g (σ10002)) H := hP
    have hD : va_D A (WM k ad g (σ10002)) := hD
    exact B_38 r10001 (σ10002) _ _ _  hP hD hS (lv_sub hl [] rfl) hp
  refine lv_aload_n hx hb dX8_has_0 rfl (lv_at hl 0 rfl) ?_
  refine lv_iconst (v := 0) hx hb dX8_has_1 (by decide) ?_
  refine va_put (D := D) (ci := 12) (v := .int 0) (ty := .int) (C := RX8) (T := TX8) (N := 15) hx hb hts hin_X8 tyX8 tyX8_ok nmX8 hown hK hP hD hS 0 rfl rfl 0 (by decide) hf_41 (fun _ h9 => h9) rfl (by decide +kernel) rfl rfl (Nat.le_of_ble_eq_true rfl) dX8_has_2 (fun H locs hP hD hS => ?_)
  obtain ⟨σ1, eσ1⟩ : ∃ z : Mem, z = mst (σ) 0 0 0 := ⟨_, rfl⟩
  have hp := hp σ1 eσ1
  have hP : va_P D vwCl (WM k ad g (σ1)) H := by rw [eσ1, WM_s (by decide)]; exact hP
  have hD : va_D A (WM k ad g (σ1)) := by rw [eσ1, WM_s (by decide)]; exact hD
  refine lv_iload_n hx hb dX8_has_5 rfl (lv_at hl 1 rfl) ?_
  refine fw_ciS (As := [.int p1]) (rest := []) hC (c_X8_isMachine l D k hp) (va_cwS 1 hts (gA_S A_793 A_794 A_601 A_608) rfl rfl rfl (by decide +kernel) ⟨Nat.le_of_ble_eq_true rfl, Nat.le_of_ble_eq_true rfl⟩) rfl hl.1 rfl (Nat.le_of_ble_eq_true rfl) dX8_has_6 ⟨Nat.le_of_ble_eq_true rfl, Nat.le_of_ble_eq_true rfl⟩ P_nil D_nil hS (Jn.pure (w0 := fun _ : Mem => []) hP hD) (fun r2 σ3 H locs hP hD hS hp => ?_)
  have hP : va_P D vwCl (WM k ad g (σ1)) H := hP
  have hD : va_D A (WM k ad g (σ1)) := hD
  refine lv_if_eq (tgt := 33) hx hb dX8_has_9 (by decide) (fun c4 => ?_) (fun c4 => ?_)
  · have hp := hp.1 c4
    exact B_33  (σ1) _ _ _  hP hD hS (lv_sub hl [0] rfl) hp
  · have hp := hp.2 c4
    refine lv_aload_n hx hb dX8_has_12 rfl (lv_at hl 0 rfl) ?_
    refine lv_iload_n hx hb dX8_has_13 rfl (lv_at hl 2 rfl) ?_
    refine fw_ciV (As := [.int p2]) (rest := []) hC (c_X8_isField l D k ad g hg hp) (cwV 1 hts (gA_V A_665 A_666 A_667 A_601 A_597) rfl rfl rfl (by decide +kernel) ⟨Nat.le_of_ble_eq_true rfl, Nat.le_of_ble_eq_true rfl⟩) (va_recv hK hP (ci := 12) (q0 := 0) rfl rfl) rfl hl.1 rfl (Nat.le_of_ble_eq_true rfl) dX8_has_14 ⟨Nat.le_of_ble_eq_true rfl, Nat.le_of_ble_eq_true rfl⟩ hP hD hS Jn.same (fun r5 σ6 H locs hP hD hS hp => ?_)
    have hP : va_P D vwCl (WM k ad g (σ6)) H := hP
    have hD : va_D A (WM k ad g (σ6)) := hD
    refine lv_if_eq (tgt := 33) hx hb dX8_has_17 (by decide) (fun c7 => ?_) (fun c7 => ?_)
    · have hp := hp.1 c7
      exact B_33  (σ6) _ _ _  hP hD hS (lv_sub hl [0] rfl) hp
    · have hp := hp.2 c7
      refine lv_aload_n hx hb dX8_has_20 rfl (lv_at hl 0 rfl) ?_
      refine va_get (D := D) (ci := 12) (C := RX8) (T := TX8) (N := 15) hx hb hts hin_X8 hown hK hP 0 rfl rfl 7 (by decide) hf_29 (fun _ h9 => h9) rfl dX8_has_21 ?_
      refine lv_iload_n hx hb dX8_has_24 rfl (lv_at hl 1 rfl) ?_
      refine lv_iconst (v := 5) hx hb dX8_has_25 (by decide) ?_
      refine lv_imul hx hb dX8_has_26 ?_
      refine lv_iload_n hx hb dX8_has_27 rfl (lv_at hl 2 rfl) ?_
      refine lv_iadd hx hb dX8_has_28 ?_
      obtain ⟨h8, hp⟩ := hp
      refine va_iald hx hb hK hP 6 0 rfl rfl h8 dX8_has_29 ?_
      refine lv_goto (tgt := 38) hx hb dX8_has_30 (by decide) ?_
      exact B_38 ((σ6) 6 (((p1 * 5) + p2).toNatClampNeg)) (σ6) _ _ _  hP hD hS (lv_sub hl [] rfl) hp
def q_X8_ofCommit_51 (n : Nat) (c : Nat) (post : Int32 → Mem → Prop)  (s0 : Int32) (σ : Mem) : Prop := post s0 (σ)
def q_X8_ofCommit_46 (n : Nat) (c : Nat) (post : Int32 → Mem → Prop)  (σ : Mem) : Prop := (q_X8_refuse n c (fun (r1001 : Int32) (σ1002 : Mem) => (q_X8_ofCommit_51 n c post) r1001 (σ1002)) 1 (σ))
def q_X8_ofCommit (n : Nat) (c : Nat) (post : Int32 → Mem → Prop) (p1 : Int32) (p2 : Int32) (σ : Mem) : Prop := (∀ σ1 : Mem, σ1 = mst (σ) 0 0 0 → (q_X8_is (fun (r2 : Int32) (σ3 : Mem) => ((r2 = 0 → (q_X8_ofCommit_46 n c post) (σ1)) ∧ (¬ (r2 = 0) → (q_X8_isField n c (fun (r5 : Int32) (σ6 : Mem) => ((r5 = 0 → (q_X8_ofCommit_46 n c post) (σ6)) ∧ (¬ (r5 = 0) → (∃ j8 : Nat, (j8 < c ∧ p1 = nI j8) ∧ (vp_in p2 5 ∧ (q_X8_ofCommit_51 n c post) ((σ6) (200 + j8) p2.toNatClampNeg) (σ6)))))) p2 (σ1))))) p1 0 ((nI c) - 1) (σ1)))
abbrev rm_X8_ofCommit : Room := { frames := 4, cells := 0, slots := 0, locals := 260 }
abbrev wq_X8_ofCommit : List Cond := Cond.code yX8_ofCommit cX8_ofCommit 3 (some .int) :: wALL
set_option maxHeartbeats 4000000 in
set_option maxRecDepth 100000 in
theorem c_X8_ofCommit (l : Launch) (D : va_G) (k ad g : Nat → Nat) (hg : gok g) {sz : Nat} {σ : Mem} {p1 : Int32} {p2 : Int32} {post : Int32 → Mem → Prop} (hp : q_X8_ofCommit (g 0) (g 2) post p1 p2 σ) : Met l yX8_ofCommit wq_X8_ofCommit rm_X8_ofCommit (va_Pc [.ref (ad 0), .int p1, .int p2] (Pw D k (WM k ad g (σ)) sz)) (va_Qi post (fun u => Bw D (WM k ad g (σ)) sz (WM k ad g u)) (va_A (WM k ad g (σ)) sz)) 0 0 (va_A (WM k ad g (σ)) sz) := by
  refine fw_i (wf := fun u : Mem => WM k ad g u) (by decide) rfl (Nat.le_of_ble_eq_true rfl) ?_
  intro p e s m args below meth c A Q ls hC hP hD hl hret
  obtain ⟨⟨hx, hb, hml, hown, hts⟩, hG, hA⟩ := id hC
  have hK := hG.1
  have hS : va_S A s.heap s.heap [] := va_S.rf
  have hin_X8 : ∀ w ∈ u_ws RX8 TX8 15, w ∈ wq_X8_ofCommit := fun w h => List.mem_cons_of_mem _ (iU_X8 w h)
  have hf_41 := hts _ (List.mem_cons_of_mem _ A_595)
  have hf_23 := hts _ (List.mem_cons_of_mem _ A_585)
  have hl : lv_has ls 3 [(0, .ref (ad 0)), (1, .int p1), (2, .int p2)] := hl
  have hown : s.vm.findClass RX8 = some m.cls := hown
  unfold q_X8_ofCommit at hp
  have B_51 : ∀ (s0 : Int32) (σ : Mem) (H : Heap) (locs : List Loc) (ls : Array Slot), va_P D vwCl (WM k ad g (σ)) H → va_D A (WM k ad g (σ)) → va_S A s.heap H locs → lv_has ls 3 [] → (q_X8_ofCommit_51 (g 0) (g 2) post) s0 σ → W p l e rm_X8_ofCommit s m args below meth c H locs 0 0 Q (F0 m 51 ls [.int s0]) := by
    intro s0 σ H locs ls hP hD hS hl hp
    unfold q_X8_ofCommit_51 at hp
    exact hret s0 (σ) _ _ _ _ _ _ dX8_ofCommit_51 rfl hP hD hS (Nat.le_of_ble_eq_true rfl) (Nat.le_of_ble_eq_true rfl) hp
  have B_46 : ∀  (σ : Mem) (H : Heap) (locs : List Loc) (ls : Array Slot), va_P D vwCl (WM k ad g (σ)) H → va_D A (WM k ad g (σ)) → va_S A s.heap H locs → lv_has ls 3 [(0, .ref (ad 0))] → (q_X8_ofCommit_46 (g 0) (g 2) post)  σ → W p l e rm_X8_ofCommit s m args below meth c H locs 0 0 Q (F0 m 46 ls []) := by
    intro  σ H locs ls hP hD hS hl hp
    unfold q_X8_ofCommit_46 at hp
    refine lv_aload_n hx hb dX8_ofCommit_46 rfl (lv_at hl 0 rfl) ?_
    refine lv_iconst (v := 1) hx hb dX8_ofCommit_47 (by decide) ?_
    refine fw_ciV (As := [.int 1]) (rest := []) hC (c_X8_refuse l D k ad g hg hp) (cwV 1 hts (gA_V A_629 A_630 A_631 A_601 A_594) rfl rfl rfl (by decide +kernel) ⟨Nat.le_of_ble_eq_true rfl, Nat.le_of_ble_eq_true rfl⟩) (va_recv hK hP (ci := 12) (q0 := 0) rfl rfl) rfl hl.1 rfl (Nat.le_of_ble_eq_true rfl) dX8_ofCommit_48 ⟨Nat.le_of_ble_eq_true rfl, Nat.le_of_ble_eq_true rfl⟩ hP hD hS Jn.same (fun r10001 σ10002 H locs hP hD hS hp => ?_)
    have hP : va_P D vwCl (WM k ad g (σ10002)) H := hP
    have hD : va_D A (WM k ad g (σ10002)) := hD
    exact B_51 r10001 (σ10002) _ _ _  hP hD hS (lv_sub hl [] rfl) hp
  refine lv_aload_n hx hb dX8_ofCommit_0 rfl (lv_at hl 0 rfl) ?_
  refine lv_iconst (v := 0) hx hb dX8_ofCommit_1 (by decide) ?_
  refine va_put (D := D) (ci := 12) (v := .int 0) (ty := .int) (C := RX8) (T := TX8) (N := 15) hx hb hts hin_X8 tyX8 tyX8_ok nmX8 hown hK hP hD hS 0 rfl rfl 0 (by decide) hf_41 (fun _ h9 => h9) rfl (by decide +kernel) rfl rfl (Nat.le_of_ble_eq_true rfl) dX8_ofCommit_2 (fun H locs hP hD hS => ?_)
  obtain ⟨σ1, eσ1⟩ : ∃ z : Mem, z = mst (σ) 0 0 0 := ⟨_, rfl⟩
  have hp := hp σ1 eσ1
  have hP : va_P D vwCl (WM k ad g (σ1)) H := by rw [eσ1, WM_s (by decide)]; exact hP
  have hD : va_D A (WM k ad g (σ1)) := by rw [eσ1, WM_s (by decide)]; exact hD
  refine lv_iload_n hx hb dX8_ofCommit_5 rfl (lv_at hl 1 rfl) ?_
  refine lv_iconst (v := 0) hx hb dX8_ofCommit_6 (by decide) ?_
  refine lv_aload_n hx hb dX8_ofCommit_7 rfl (lv_at hl 0 rfl) ?_
  refine va_get (D := D) (ci := 12) (C := RX8) (T := TX8) (N := 15) hx hb hts hin_X8 hown hK hP 0 rfl rfl 5 (by decide) hf_23 (fun _ h9 => h9) rfl dX8_ofCommit_8 ?_
  refine wm_size_commit (rest := [.int 0, .int p1]) hC (gA_V (a := Cond.code yX8_ofCommit cX8_ofCommit 3 (some .int)) A_605 A_606 A_607 A_583 A_602) hl.1 rfl (Nat.le_of_ble_eq_true rfl) (Nat.le_of_ble_eq_true rfl) (Nat.le_of_ble_eq_true rfl) dX8_ofCommit_11 ⟨Nat.le_of_ble_eq_true rfl, Nat.le_of_ble_eq_true rfl⟩ hP hD hS (fun H locs hP hD hS => ?_)
  refine lv_iconst (v := 1) hx hb dX8_ofCommit_14 (by decide) ?_
  refine lv_isub hx hb dX8_ofCommit_15 ?_
  refine fw_ciS (As := [.int p1, .int 0, .int ((nI (g 2)) - 1)]) (rest := []) hC (c_X8_is l D k hp) (va_cwS 3 hts (gA_S A_599 A_600 A_601 A_596) rfl rfl rfl (by decide +kernel) ⟨Nat.le_of_ble_eq_true rfl, Nat.le_of_ble_eq_true rfl⟩) rfl hl.1 rfl (Nat.le_of_ble_eq_true rfl) dX8_ofCommit_16 ⟨Nat.le_of_ble_eq_true rfl, Nat.le_of_ble_eq_true rfl⟩ P_nil D_nil hS (Jn.pure (w0 := fun _ : Mem => []) hP hD) (fun r2 σ3 H locs hP hD hS hp => ?_)
  have hP : va_P D vwCl (WM k ad g (σ1)) H := hP
  have hD : va_D A (WM k ad g (σ1)) := hD
  refine lv_if_eq (tgt := 46) hx hb dX8_ofCommit_19 (by decide) (fun c4 => ?_) (fun c4 => ?_)
  · have hp := hp.1 c4
    exact B_46  (σ1) _ _ _  hP hD hS (lv_sub hl [0] rfl) hp
  · have hp := hp.2 c4
    refine lv_aload_n hx hb dX8_ofCommit_22 rfl (lv_at hl 0 rfl) ?_
    refine lv_iload_n hx hb dX8_ofCommit_23 rfl (lv_at hl 2 rfl) ?_
    refine fw_ciV (As := [.int p2]) (rest := []) hC (c_X8_isField l D k ad g hg hp) (cwV 1 hts (gA_V A_665 A_666 A_667 A_601 A_597) rfl rfl rfl (by decide +kernel) ⟨Nat.le_of_ble_eq_true rfl, Nat.le_of_ble_eq_true rfl⟩) (va_recv hK hP (ci := 12) (q0 := 0) rfl rfl) rfl hl.1 rfl (Nat.le_of_ble_eq_true rfl) dX8_ofCommit_24 ⟨Nat.le_of_ble_eq_true rfl, Nat.le_of_ble_eq_true rfl⟩ hP hD hS Jn.same (fun r5 σ6 H locs hP hD hS hp => ?_)
    have hP : va_P D vwCl (WM k ad g (σ6)) H := hP
    have hD : va_D A (WM k ad g (σ6)) := hD
    refine lv_if_eq (tgt := 46) hx hb dX8_ofCommit_27 (by decide) (fun c7 => ?_) (fun c7 => ?_)
    · have hp := hp.1 c7
      exact B_46  (σ6) _ _ _  hP hD hS (lv_sub hl [0] rfl) hp
    · have hp := hp.2 c7
      refine lv_aload_n hx hb dX8_ofCommit_30 rfl (lv_at hl 0 rfl) ?_
      refine va_get (D := D) (ci := 12) (C := RX8) (T := TX8) (N := 15) hx hb hts hin_X8 hown hK hP 0 rfl rfl 5 (by decide) hf_23 (fun _ h9 => h9) rfl dX8_ofCommit_31 ?_
      refine lv_iload_n hx hb dX8_ofCommit_34 rfl (lv_at hl 1 rfl) ?_
      obtain ⟨j8, ⟨hj8, ej8⟩, hp⟩ := hp
      refine wm_get_commit (rest := []) hC hg hj8 ej8 (gA_V (a := Cond.code yX8_ofCommit cX8_ofCommit 3 (some .int)) A_621 A_622 A_623 A_583 A_613) hl.1 rfl (Nat.le_of_ble_eq_true rfl) (Nat.le_of_ble_eq_true rfl) (Nat.le_of_ble_eq_true rfl) dX8_ofCommit_35 ⟨Nat.le_of_ble_eq_true rfl, Nat.le_of_ble_eq_true rfl⟩ hP hD hS (fun H locs hP hD hS => ?_)
      refine va_castA hx hb hown (hts _ (List.mem_cons_of_mem _ A_783)) hP (cmP g j8) (WM_cm k ad g (σ6) hj8) hG.2.1.1 dX8_ofCommit_38 ?_
      refine lv_iload_n hx hb dX8_ofCommit_41 rfl (lv_at hl 2 rfl) ?_
      obtain ⟨h9, hp⟩ := hp
      refine va_iald hx hb hK hP (cmP g j8) 0 (WM_cm k ad g (σ6) hj8) rfl h9 dX8_ofCommit_42 ?_
      refine lv_goto (tgt := 51) hx hb dX8_ofCommit_43 (by decide) ?_
      exact B_51 ((σ6) (200 + j8) p2.toNatClampNeg) (σ6) _ _ _  hP hD hS (lv_sub hl [] rfl) hp
