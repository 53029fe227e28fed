def q_X8_reason_31 (n : Nat) (c : Nat) (post : Int32 → Mem → Prop)  (s0 : Int32) (σ : Mem) : Prop := post s0 (σ)
def q_X8_reason_18 (n : Nat) (c : Nat) (post : Int32 → Mem → Prop)  (x1 : Int32) (σ : Mem) : Prop := (q_X8_reasonFor n c (fun (r1001 : Int32) (σ1002 : Mem) => (q_X8_reason_31 n c post) r1001 (σ1002)) x1 (σ))
def q_X8_reason (n : Nat) (c : Nat) (post : Int32 → Mem → Prop) (p1 : Int32) (σ : Mem) : Prop := (∀ σ1 : Mem, σ1 = mst (σ) 0 0 0 → ((p1 = (-1) → (q_X8_reason_18 n c post) p1 (σ1)) ∧ (¬ (p1 = (-1)) → (q_X8_isField n c (fun (r3 : Int32) (σ4 : Mem) => ((r3 = 0 → (q_X8_refuse n c (fun (r6 : Int32) (σ7 : Mem) => (q_X8_reason_31 n c post) r6 (σ7)) 1 (σ4))) ∧ (¬ (r3 = 0) → (q_X8_reason_18 n c post) p1 (σ4)))) p1 (σ1)))))
abbrev rm_X8_reason : Room := { frames := 7, cells := 0, slots := 0, locals := 333 }
abbrev wq_X8_reason : List Cond := Cond.code yX8_reason cX8_reason 2 (some .int) :: wALL
set_option maxHeartbeats 4000000 in
set_option maxRecDepth 100000 in
theorem c_X8_reason (l : Launch) (D : va_G) (k ad g : Nat → Nat) (hg : gok g) {sz : Nat} {σ : Mem} {p1 : Int32} {post : Int32 → Mem → Prop} (hp : q_X8_reason (g 0) (g 2) post p1 σ) : Met l yX8_reason wq_X8_reason rm_X8_reason (va_Pc [.ref (ad 0), .int p1] (Pw D k (WM k ad g (σ)) sz)) (va_Qi post (fun u => Bw D (WM k ad g (σ)) sz (WM k ad g u)) (va_A (WM k ad g (σ)) sz)) 0 0 (va_A (WM k ad g (σ)) sz) := by
  refine fw_i (wf := fun u : Mem => WM k ad g u) (by decide) rfl (Nat.le_of_ble_eq_true rfl) ?_
  intro p e s m args below meth c A Q ls hC hP hD hl hret
  obtain ⟨⟨hx, hb, hml, hown, hts⟩, hG, hA⟩ := id hC
  have hK := hG.1
  have hS : va_S A s.heap s.heap [] := va_S.rf
  have hin_X8 : ∀ w ∈ u_ws RX8 TX8 15, w ∈ wq_X8_reason := fun w h => List.mem_cons_of_mem _ (iU_X8 w h)
  have hf_41 := hts _ (List.mem_cons_of_mem _ A_595)
  have hl : lv_has ls 2 [(0, .ref (ad 0)), (1, .int p1)] := hl
  have hown : s.vm.findClass RX8 = some m.cls := hown
  unfold q_X8_reason at hp
  have B_31 : ∀ (s0 : Int32) (σ : Mem) (H : Heap) (locs : List Loc) (ls : Array Slot), va_P D vwCl (WM k ad g (σ)) H → va_D A (WM k ad g (σ)) → va_S A s.heap H locs → lv_has ls 2 [] → (q_X8_reason_31 (g 0) (g 2) post) s0 σ → W p l e rm_X8_reason s m args below meth c H locs 0 0 Q (F0 m 31 ls [.int s0]) := by
    intro s0 σ H locs ls hP hD hS hl hp
    unfold q_X8_reason_31 at hp
    exact hret s0 (σ) _ _ _ _ _ _ dX8_reason_31 rfl hP hD hS (Nat.le_of_ble_eq_true rfl) (Nat.le_of_ble_eq_true rfl) hp
  have B_18 : ∀ (x1 : Int32) (σ : Mem) (H : Heap) (locs : List Loc) (ls : Array Slot), va_P D vwCl (WM k ad g (σ)) H → va_D A (WM k ad g (σ)) → va_S A s.heap H locs → lv_has ls 2 [(0, .ref (ad 0)), (1, .int x1)] → (q_X8_reason_18 (g 0) (g 2) post) x1 σ → W p l e rm_X8_reason s m args below meth c H locs 0 0 Q (F0 m 18 ls []) := by
    intro x1 σ H locs ls hP hD hS hl hp
    unfold q_X8_reason_18 at hp
    refine lv_aload_n hx hb dX8_reason_18 rfl (lv_at hl 0 rfl) ?_
    refine lv_iload_n hx hb dX8_reason_19 rfl (lv_at hl 1 rfl) ?_
    refine fw_ciV (As := [.int x1]) (rest := []) hC (c_X8_reasonFor l D k ad g hg hp) (cwV 1 hts (gA_V A_816 A_817 A_818 A_601 A_762) rfl rfl rfl (by decide +kernel) ⟨Nat.le_of_ble_eq_true rfl, Nat.le_of_ble_eq_true rfl⟩) (va_recv hK hP (ci := 12) (q0 := 0) rfl rfl) rfl hl.1 rfl (Nat.le_of_ble_eq_true rfl) dX8_reason_20 ⟨Nat.le_of_ble_eq_true rfl, Nat.le_of_ble_eq_true rfl⟩ hP hD hS Jn.same (fun r10001 σ10002 H locs hP hD hS hp => ?_)
    have hP : va_P D vwCl (WM k ad g (σ10002)) H := hP
    have hD : va_D A (WM k ad g (σ10002)) := hD
    refine lv_goto (tgt := 31) hx hb dX8_reason_23 (by decide) ?_
    exact B_31 r10001 (σ10002) _ _ _  hP hD hS (lv_sub hl [] rfl) hp
  refine lv_aload_n hx hb dX8_reason_0 rfl (lv_at hl 0 rfl) ?_
  refine lv_iconst (v := 0) hx hb dX8_reason_1 (by decide) ?_
  refine va_put (D := D) (ci := 12) (v := .int 0) (ty := .int) (C := RX8) (T := TX8) (N := 15) hx hb hts hin_X8 tyX8 tyX8_ok nmX8 hown hK hP hD hS 0 rfl rfl 0 (by decide) hf_41 (fun _ h9 => h9) rfl (by decide +kernel) rfl rfl (Nat.le_of_ble_eq_true rfl) dX8_reason_2 (fun H locs hP hD hS => ?_)
  obtain ⟨σ1, eσ1⟩ : ∃ z : Mem, z = mst (σ) 0 0 0 := ⟨_, rfl⟩
  have hp := hp σ1 eσ1
  have hP : va_P D vwCl (WM k ad g (σ1)) H := by rw [eσ1, WM_s (by decide)]; exact hP
  have hD : va_D A (WM k ad g (σ1)) := by rw [eσ1, WM_s (by decide)]; exact hD
  refine lv_iload_n hx hb dX8_reason_5 rfl (lv_at hl 1 rfl) ?_
  refine lv_iconst (v := (-1)) hx hb dX8_reason_6 (by decide) ?_
  refine lv_icmp_eq (tgt := 18) hx hb dX8_reason_7 (by decide) (fun c2 => ?_) (fun c2 => ?_)
  · have hp := hp.1 c2
    exact B_18 p1 (σ1) _ _ _  hP hD hS (lv_sub hl [0, 1] rfl) hp
  · have hp := hp.2 c2
    refine lv_aload_n hx hb dX8_reason_10 rfl (lv_at hl 0 rfl) ?_
    refine lv_iload_n hx hb dX8_reason_11 rfl (lv_at hl 1 rfl) ?_
    refine fw_ciV (As := [.int p1]) (rest := []) hC (c_X8_isField l D k ad g hg hp) (cwV 1 hts (gA_V A_665 A_666 A_667 A_601 A_597) rfl rfl rfl (by decide +kernel) ⟨Nat.le_of_ble_eq_true rfl, Nat.le_of_ble_eq_true rfl⟩) (va_recv hK hP (ci := 12) (q0 := 0) rfl rfl) rfl hl.1 rfl (Nat.le_of_ble_eq_true rfl) dX8_reason_12 ⟨Nat.le_of_ble_eq_true rfl, Nat.le_of_ble_eq_true rfl⟩ hP hD hS Jn.same (fun r3 σ4 H locs hP hD hS hp => ?_)
    have hP : va_P D vwCl (WM k ad g (σ4)) H := hP
    have hD : va_D A (WM k ad g (σ4)) := hD
    refine lv_if_eq (tgt := 26) hx hb dX8_reason_15 (by decide) (fun c5 => ?_) (fun c5 => ?_)
    · have hp := hp.1 c5
      refine lv_aload_n hx hb dX8_reason_26 rfl (lv_at hl 0 rfl) ?_
      refine lv_iconst (v := 1) hx hb dX8_reason_27 (by decide) ?_
      refine fw_ciV (As := [.int 1]) (rest := []) hC (c_X8_refuse l D k ad g hg hp) (cwV 1 hts (gA_V A_629 A_630 A_631 A_601 A_594) rfl rfl rfl (by decide +kernel) ⟨Nat.le_of_ble_eq_true rfl, Nat.le_of_ble_eq_true rfl⟩) (va_recv hK hP (ci := 12) (q0 := 0) rfl rfl) rfl hl.1 rfl (Nat.le_of_ble_eq_true rfl) dX8_reason_28 ⟨Nat.le_of_ble_eq_true rfl, Nat.le_of_ble_eq_true rfl⟩ hP hD hS Jn.same (fun r6 σ7 H locs hP hD hS hp => ?_)
      have hP : va_P D vwCl (WM k ad g (σ7)) H := hP
      have hD : va_D A (WM k ad g (σ7)) := hD
      exact B_31 r6 (σ7) _ _ _  hP hD hS (lv_sub hl [] rfl) hp
    · have hp := hp.2 c5
      exact B_18 p1 (σ4) _ _ _  hP hD hS (lv_sub hl [0, 1] rfl) hp
def q_X8_met_35 (n : Nat) (c : Nat) (post : Int32 → Mem → Prop)  (σ : Mem) : Prop := (q_X8_refuse n c (fun (r1001 : Int32) (σ1002 : Mem) => post r1001 (σ1002)) 2 (σ))
def q_X8_met (n : Nat) (c : Nat) (post : Int32 → Mem → Prop) (p1 : Int32) (p2 : Int32) (σ : Mem) : Prop := (∀ σ1 : Mem, σ1 = mst (σ) 0 0 0 → (q_X8_isField n c (fun (r2 : Int32) (σ3 : Mem) => ((r2 ≠ 0 → ((p1 < 0 → (q_X8_met_35 n c post) (σ3)) ∧ (¬ (p1 < 0) → (((p1 >>> ((nI n) &&& 31)) = 0 → (q_X8_meetAnew n c (fun (r7 : Int32) (σ8 : Mem) => (q_X8_setOf n c (fun (r9 : Int32) (σ10 : Mem) => post r9 (σ10)) 0 p2 (σ8))) 0 p1 (σ3))) ∧ (¬ ((p1 >>> ((nI n) &&& 31)) = 0) → (q_X8_met_35 n c post) (σ3)))))) ∧ (r2 = 0 → (q_X8_refuse n c (fun (r11 : Int32) (σ12 : Mem) => post r11 (σ12)) 1 (σ3))))) p2 (σ1)))
abbrev rm_X8_met : Room := { frames := 6, cells := 0, slots := 0, locals := 307 }
abbrev wq_X8_met : List Cond := Cond.code yX8_met cX8_met 3 (some .int) :: wALL
set_option maxHeartbeats 4000000 in
set_option maxRecDepth 100000 in
theorem c_X8_met (l : Launch) (D : va_G) (k ad g : Nat → Nat) (hg : gok g) {sz : Nat} {σ : Mem} {p1 : Int32} {p2 : Int32} {post : Int32 → Mem → Prop} (hp : q_X8_met (g 0) (g 2) post p1 p2 σ) : Met l yX8_met wq_X8_met rm_X8_met (va_Pc [.ref (ad 0), .int p1, .int p2] (Pw D k (WM k ad g (σ)) sz)) (va_Qi post (fun u => Bw D (WM k ad g (σ)) sz (WM k ad g u)) (va_A (WM k ad g (σ)) sz)) 0 0 (va_A (WM k ad g (σ)) sz) := by
  refine fw_i (wf := fun u : Mem => WM k ad g u) (by decide) rfl (Nat.le_of_ble_eq_true rfl) ?_
  intro p e s m args below meth c A Q ls hC hP hD hl hret
  obtain ⟨⟨hx, hb, hml, hown, hts⟩, hG, hA⟩ := id hC
  have hK := hG.1
  have hS : va_S A s.heap s.heap [] := va_S.rf
  have hin_X8 : ∀ w ∈ u_ws RX8 TX8 15, w ∈ wq_X8_met := fun w h => List.mem_cons_of_mem _ (iU_X8 w h)
  have hf_41 := hts _ (List.mem_cons_of_mem _ A_595)
  have hf_19 := hts _ (List.mem_cons_of_mem _ A_584)
  have hl : lv_has ls 3 [(0, .ref (ad 0)), (1, .int p1), (2, .int p2)] := hl
  have hown : s.vm.findClass RX8 = some m.cls := hown
  unfold q_X8_met at hp
  have B_35 : ∀  (σ : Mem) (H : Heap) (locs : List Loc) (ls : Array Slot), va_P D vwCl (WM k ad g (σ)) H → va_D A (WM k ad g (σ)) → va_S A s.heap H locs → lv_has ls 3 [(0, .ref (ad 0))] → (q_X8_met_35 (g 0) (g 2) post)  σ → W p l e rm_X8_met s m args below meth c H locs 0 0 Q (F0 m 35 ls []) := by
    intro  σ H locs ls hP hD hS hl hp
    unfold q_X8_met_35 at hp
    refine lv_aload_n hx hb dX8_met_35 rfl (lv_at hl 0 rfl) ?_
    refine lv_iconst (v := 2) hx hb dX8_met_36 (by decide) ?_
    refine fw_ciV (As := [.int 2]) (rest := []) hC (c_X8_refuse l D k ad g hg hp) (cwV 1 hts (gA_V A_629 A_630 A_631 A_601 A_594) rfl rfl rfl (by decide +kernel) ⟨Nat.le_of_ble_eq_true rfl, Nat.le_of_ble_eq_true rfl⟩) (va_recv hK hP (ci := 12) (q0 := 0) rfl rfl) rfl hl.1 rfl (Nat.le_of_ble_eq_true rfl) dX8_met_37 ⟨Nat.le_of_ble_eq_true rfl, Nat.le_of_ble_eq_true rfl⟩ hP hD hS Jn.same (fun r10001 σ10002 H locs hP hD hS hp => ?_)
    have hP : va_P D vwCl (WM k ad g (σ10002)) H := hP
    have hD : va_D A (WM k ad g (σ10002)) := hD
    exact hret r10001 (σ10002) _ _ _ _ _ _ dX8_met_40 rfl hP hD hS (Nat.le_of_ble_eq_true rfl) (Nat.le_of_ble_eq_true rfl) hp
  refine lv_aload_n hx hb dX8_met_0 rfl (lv_at hl 0 rfl) ?_
  refine lv_iconst (v := 0) hx hb dX8_met_1 (by decide) ?_
  refine va_put (D := D) (ci := 12) (v := .int 0) (ty := .int) (C := RX8) (T := TX8) (N := 15) hx hb hts hin_X8 tyX8 tyX8_ok nmX8 hown hK hP hD hS 0 rfl rfl 0 (by decide) hf_41 (fun _ h9 => h9) rfl (by decide +kernel) rfl rfl (Nat.le_of_ble_eq_true rfl) dX8_met_2 (fun H locs hP hD hS => ?_)
  obtain ⟨σ1, eσ1⟩ : ∃ z : Mem, z = mst (σ) 0 0 0 := ⟨_, rfl⟩
  have hp := hp σ1 eσ1
  have hP : va_P D vwCl (WM k ad g (σ1)) H := by rw [eσ1, WM_s (by decide)]; exact hP
  have hD : va_D A (WM k ad g (σ1)) := by rw [eσ1, WM_s (by decide)]; exact hD
  refine lv_aload_n hx hb dX8_met_5 rfl (lv_at hl 0 rfl) ?_
  refine lv_iload_n hx hb dX8_met_6 rfl (lv_at hl 2 rfl) ?_
  refine fw_ciV (As := [.int p2]) (rest := []) hC (c_X8_isField l D k ad g hg hp) (cwV 1 hts (gA_V A_665 A_666 A_667 A_601 A_597) rfl rfl rfl (by decide +kernel) ⟨Nat.le_of_ble_eq_true rfl, Nat.le_of_ble_eq_true rfl⟩) (va_recv hK hP (ci := 12) (q0 := 0) rfl rfl) rfl hl.1 rfl (Nat.le_of_ble_eq_true rfl) dX8_met_7 ⟨Nat.le_of_ble_eq_true rfl, Nat.le_of_ble_eq_true rfl⟩ hP hD hS Jn.same (fun r2 σ3 H locs hP hD hS hp => ?_)
  have hP : va_P D vwCl (WM k ad g (σ3)) H := hP
  have hD : va_D A (WM k ad g (σ3)) := hD
  refine lv_if_ne (tgt := 19) hx hb dX8_met_10 (by decide) (fun c4 => ?_) (fun c4 => ?_)
  · have hp := hp.1 c4
    refine lv_iload_n hx hb dX8_met_19 rfl (lv_at hl 1 rfl) ?_
    refine lv_if_lt (tgt := 35) hx hb dX8_met_20 (by decide) (fun c5 => ?_) (fun c5 => ?_)
    · have hp := hp.1 c5
      exact B_35  (σ3) _ _ _  hP hD hS (lv_sub hl [0] rfl) hp
    · have hp := hp.2 c5
      refine lv_iload_n hx hb dX8_met_23 rfl (lv_at hl 1 rfl) ?_
      refine lv_aload_n hx hb dX8_met_24 rfl (lv_at hl 0 rfl) ?_
      refine va_get (D := D) (ci := 12) (C := RX8) (T := TX8) (N := 15) hx hb hts hin_X8 hown hK hP 0 rfl rfl 4 (by decide) hf_19 (fun _ h9 => h9) rfl dX8_met_25 ?_
      refine wm_size_line (rest := [.int p1]) hC (gA_V (a := Cond.code yX8_met cX8_met 3 (some .int)) A_605 A_606 A_607 A_583 A_602) hl.1 rfl (Nat.le_of_ble_eq_true rfl) (Nat.le_of_ble_eq_true rfl) (Nat.le_of_ble_eq_true rfl) dX8_met_28 ⟨Nat.le_of_ble_eq_true rfl, Nat.le_of_ble_eq_true rfl⟩ hP hD hS (fun H locs hP hD hS => ?_)
      refine lv_ishr hx hb dX8_met_31 ?_
      refine lv_if_eq (tgt := 41) hx hb dX8_met_32 (by decide) (fun c6 => ?_) (fun c6 => ?_)
      · have hp := hp.1 c6
        refine lv_aload_n hx hb dX8_met_41 rfl (lv_at hl 0 rfl) ?_
        refine lv_iconst (v := 0) hx hb dX8_met_42 (by decide) ?_
        refine lv_iload_n hx hb dX8_met_43 rfl (lv_at hl 1 rfl) ?_
        refine fw_ciV (As := [.int 0, .int p1]) (rest := []) hC (c_X8_meetAnew l D k ad g hg hp) (cwV 2 hts (gA_V A_734 A_735 A_736 A_601 A_724) rfl rfl rfl (by decide +kernel) ⟨Nat.le_of_ble_eq_true rfl, Nat.le_of_ble_eq_true rfl⟩) (va_recv hK hP (ci := 12) (q0 := 0) rfl rfl) rfl hl.1 rfl (Nat.le_of_ble_eq_true rfl) dX8_met_44 ⟨Nat.le_of_ble_eq_true rfl, Nat.le_of_ble_eq_true rfl⟩ hP hD hS Jn.same (fun r7 σ8 H locs hP hD hS hp => ?_)
        have hP : va_P D vwCl (WM k ad g (σ8)) H := hP
        have hD : va_D A (WM k ad g (σ8)) := hD
        refine lv_pop hx hb dX8_met_47 rfl ?_
        refine lv_aload_n hx hb dX8_met_48 rfl (lv_at hl 0 rfl) ?_
        refine lv_iconst (v := 0) hx hb dX8_met_49 (by decide) ?_
        refine lv_iload_n hx hb dX8_met_50 rfl (lv_at hl 2 rfl) ?_
        refine fw_ciV (As := [.int 0, .int p2]) (rest := []) hC (c_X8_setOf l D k ad g hg hp) (cwV 2 hts (gA_V A_692 A_693 A_694 A_601 A_690) rfl rfl rfl (by decide +kernel) ⟨Nat.le_of_ble_eq_true rfl, Nat.le_of_ble_eq_true rfl⟩) (va_recv hK hP (ci := 12) (q0 := 0) rfl rfl) rfl hl.1 rfl (Nat.le_of_ble_eq_true rfl) dX8_met_51 ⟨Nat.le_of_ble_eq_true rfl, Nat.le_of_ble_eq_true rfl⟩ hP hD hS Jn.same (fun r9 σ10 H locs hP hD hS hp => ?_)
        have hP : va_P D vwCl (WM k ad g (σ10)) H := hP
        have hD : va_D A (WM k ad g (σ10)) := hD
        exact hret r9 (σ10) _ _ _ _ _ _ dX8_met_54 rfl hP hD hS (Nat.le_of_ble_eq_true rfl) (Nat.le_of_ble_eq_true rfl) hp
      · have hp := hp.2 c6
        exact B_35  (σ3) _ _ _  hP hD hS (lv_sub hl [0] rfl) hp
  · have hp := hp.2 c4
    refine lv_aload_n hx hb dX8_met_13 rfl (lv_at hl 0 rfl) ?_
    refine lv_iconst (v := 1) hx hb dX8_met_14 (by decide) ?_
    refine fw_ciV (As := [.int 1]) (rest := []) hC (c_X8_refuse l D k ad g hg hp) (cwV 1 hts (gA_V A_629 A_630 A_631 A_601 A_594) rfl rfl rfl (by decide +kernel) ⟨Nat.le_of_ble_eq_true rfl, Nat.le_of_ble_eq_true rfl⟩) (va_recv hK hP (ci := 12) (q0 := 0) rfl rfl) rfl hl.1 rfl (Nat.le_of_ble_eq_true rfl) dX8_met_15 ⟨Nat.le_of_ble_eq_true rfl, Nat.le_of_ble_eq_true rfl⟩ hP hD hS Jn.same (fun r11 σ12 H locs hP hD hS hp => ?_)
    have hP : va_P D vwCl (WM k ad g (σ12)) H := hP
    have hD : va_D A (WM k ad g (σ12)) := hD
    exact hret r11 (σ12) _ _ _ _ _ _ dX8_met_18 rfl hP hD hS (Nat.le_of_ble_eq_true rfl) (Nat.le_of_ble_eq_true rfl) hp
def q_X8_choices_72 (n : Nat) (c : Nat) (post : Int32 → Mem → Prop)  (s0 : Int32) (σ : Mem) : Prop := post s0 (σ)
def q_X8_choices (n : Nat) (c : Nat) (post : Int32 → Mem → Prop) (p1 : Int32) (p2 : Int32) (σ : Mem) : Prop := (∀ σ1 : Mem, σ1 = mst (σ) 0 0 0 → (q_X8_isField n c (fun (r2 : Int32) (σ3 : Mem) => ((r2 ≠ 0 → (q_X8_is (fun (r5 : Int32) (σ6 : Mem) => ((r5 ≠ 0 → (q_X8_counting n c (fun (r8 : Int32) (σ9 : Mem) => (q_X8_begin n c (fun (σ11 : Mem) => (q_X8_only n c (fun (σ13 : Mem) => (q_X8_meet n c (fun (r14 : Int32) (σ15 : Mem) => ((r14 = 0 → (q_X8_countFrom n c 6 (fun (r17 : Int32) (σ18 : Mem) => (q_X8_choices_72 n c post) r17 (σ18)) 1 r8 0 (σ15))) ∧ (¬ (r14 = 0) → (q_X8_choices_72 n c post) 0 (σ15)))) 1 r8 (σ13))) 1 p1 p2 (σ11))) 1 (σ9))) (σ3))) ∧ (r5 = 0 → (q_X8_refuse n c (fun (r19 : Int32) (σ20 : Mem) => post r19 (σ20)) 2 (σ3))))) p2 0 7 (σ3))) ∧ (r2 = 0 → (q_X8_refuse n c (fun (r21 : Int32) (σ22 : Mem) => post r21 (σ22)) 1 (σ3))))) p1 (σ1)))
abbrev rm_X8_choices : Room := { frames := 17, cells := 0, slots := 0, locals := 866 }
abbrev wq_X8_choices : List Cond := Cond.code yX8_choices cX8_choices 4 (some .int) :: wALL
set_option maxHeartbeats 4000000 in
set_option maxRecDepth 100000 in
theorem c_X8_choices (l : Launch) (D : va_G) (k ad g : Nat → Nat) (hg : gok g) {sz : Nat} {σ : Mem} {p1 : Int32} {p2 : Int32} {post : Int32 → Mem → Prop} (hp : q_X8_choices (g 0) (g 2) post p1 p2 σ) : Met l yX8_choices wq_X8_choices rm_X8_choices (va_Pc [.ref (ad 0), .int p1, .int p2] (Pw D k (WM k ad g (σ)) sz)) (va_Qi post (fun u => Bw D (WM k ad g (σ)) sz (WM k ad g u)) (va_A (WM k ad g (σ)) sz)) 0 0 (va_A (WM k ad g (σ)) sz) := by
  refine fw_i (wf := fun u : Mem => WM k ad g u) (by decide) rfl (Nat.le_of_ble_eq_true rfl) ?_
  intro p e s m args below meth c A Q ls hC hP hD hl hret
  obtain ⟨⟨hx, hb, hml, hown, hts⟩, hG, hA⟩ := id hC
  have hK := hG.1
  have hS : va_S A s.heap s.heap [] := va_S.rf
  have hin_X8 : ∀ w ∈ u_ws RX8 TX8 15, w ∈ wq_X8_choices := fun w h => List.mem_cons_of_mem _ (iU_X8 w h)
  have hf_41 := hts _ (List.mem_cons_of_mem _ A_595)
  have hl : lv_has ls 4 [(0, .ref (ad 0)), (1, .int p1), (2, .int p2)] := hl
  have hown : s.vm.findClass RX8 = some m.cls := hown
  unfold q_X8_choices at hp
  have B_72 : ∀ (s0 : Int32) (σ : Mem) (H : Heap) (locs : List Loc) (ls : Array Slot), va_P D vwCl (WM k ad g (σ)) H → va_D A (WM k ad g (σ)) → va_S A s.heap H locs → lv_has ls 4 [] → (q_X8_choices_72 (g 0) (g 2) post) s0 σ → W p l e rm_X8_choices s m args below meth c H locs 0 0 Q (F0 m 72 ls [.int s0]) := by
    intro s0 σ H locs ls hP hD hS hl hp
    unfold q_X8_choices_72 at hp
    exact hret s0 (σ) _ _ _ _ _ _ dX8_choices_72 rfl hP hD hS (Nat.le_of_ble_eq_true rfl) (Nat.le_of_ble_eq_true rfl) hp
  refine lv_aload_n hx hb dX8_choices_0 rfl (lv_at hl 0 rfl) ?_
  refine lv_iconst (v := 0) hx hb dX8_choices_1 (by decide) ?_
  refine va_put (D := D) (ci := 12) (v := .int 0) (ty := .int) (C := RX8) (T := TX8) (N := 15) hx hb hts hin_X8 tyX8 tyX8_ok nmX8 hown hK hP hD hS 0 rfl rfl 0 (by decide) hf_41 (fun _ h9 => h9) rfl (by decide +kernel) rfl rfl (Nat.le_of_ble_eq_true rfl) dX8_choices_2 (fun H locs hP hD hS => ?_)
  obtain ⟨σ1, eσ1⟩ : ∃ z : Mem, z = mst (σ) 0 0 0 := ⟨_, rfl⟩
  have hp := hp σ1 eσ1
  have hP : va_P D vwCl (WM k ad g (σ1)) H := by rw [eσ1, WM_s (by decide)]; exact hP
  have hD : va_D A (WM k ad g (σ1)) := by rw [eσ1, WM_s (by decide)]; exact hD
  refine lv_aload_n hx hb dX8_choices_5 rfl (lv_at hl 0 rfl) ?_
  refine lv_iload_n hx hb dX8_choices_6 rfl (lv_at hl 1 rfl) ?_
  refine fw_ciV (As := [.int p1]) (rest := []) hC (c_X8_isField l D k ad g hg hp) (cwV 1 hts (gA_V A_665 A_666 A_667 A_601 A_597) rfl rfl rfl (by decide +kernel) ⟨Nat.le_of_ble_eq_true rfl, Nat.le_of_ble_eq_true rfl⟩) (va_recv hK hP (ci := 12) (q0 := 0) rfl rfl) rfl hl.1 rfl (Nat.le_of_ble_eq_true rfl) dX8_choices_7 ⟨Nat.le_of_ble_eq_true rfl, Nat.le_of_ble_eq_true rfl⟩ hP hD hS Jn.same (fun r2 σ3 H locs hP hD hS hp => ?_)
  have hP : va_P D vwCl (WM k ad g (σ3)) H := hP
  have hD : va_D A (WM k ad g (σ3)) := hD
  refine lv_if_ne (tgt := 19) hx hb dX8_choices_10 (by decide) (fun c4 => ?_) (fun c4 => ?_)
  · have hp := hp.1 c4
    refine lv_iload_n hx hb dX8_choices_19 rfl (lv_at hl 2 rfl) ?_
    refine lv_iconst (v := 0) hx hb dX8_choices_20 (by decide) ?_
    refine lv_bipush (v := 7) hx hb dX8_choices_21 (by decide) ?_
    refine fw_ciS (As := [.int p2, .int 0, .int 7]) (rest := []) hC (c_X8_is l D k hp) (va_cwS 3 hts (gA_S A_599 A_600 A_601 A_596) rfl rfl rfl (by decide +kernel) ⟨Nat.le_of_ble_eq_true rfl, Nat.le_of_ble_eq_true rfl⟩) rfl hl.1 rfl (Nat.le_of_ble_eq_true rfl) dX8_choices_23 ⟨Nat.le_of_ble_eq_true rfl, Nat.le_of_ble_eq_true rfl⟩ P_nil D_nil hS (Jn.pure (w0 := fun _ : Mem => []) hP hD) (fun r5 σ6 H locs hP hD hS hp => ?_)
    have hP : va_P D vwCl (WM k ad g (σ3)) H := hP
    have hD : va_D A (WM k ad g (σ3)) := hD
    refine lv_if_ne (tgt := 35) hx hb dX8_choices_26 (by decide) (fun c7 => ?_) (fun c7 => ?_)
    · have hp := hp.1 c7
      refine lv_aload_n hx hb dX8_choices_35 rfl (lv_at hl 0 rfl) ?_
      refine fw_ciV (As := []) (rest := []) hC (c_X8_counting l D k ad g hg hp) (cwV 0 hts (gA_V A_731 A_732 A_733 A_601 A_627) rfl rfl rfl (by decide +kernel) ⟨Nat.le_of_ble_eq_true rfl, Nat.le_of_ble_eq_true rfl⟩) (va_recv hK hP (ci := 12) (q0 := 0) rfl rfl) rfl hl.1 rfl (Nat.le_of_ble_eq_true rfl) dX8_choices_36 ⟨Nat.le_of_ble_eq_true rfl, Nat.le_of_ble_eq_true rfl⟩ hP hD hS Jn.same (fun r8 σ9 H locs hP hD hS hp => ?_)
      have hP : va_P D vwCl (WM k ad g (σ9)) H := hP
      have hD : va_D A (WM k ad g (σ9)) := hD
      refine lv_istore_n (lv' := [(3, .int r8), (0, .ref (ad 0)), (1, .int p1), (2, .int p2)]) hx hb dX8_choices_39 rfl hl (by decide) rfl (fun ls hl => ?_)
      refine lv_aload_n hx hb dX8_choices_40 rfl (lv_at hl 1 rfl) ?_
      refine lv_iconst (v := 1) hx hb dX8_choices_41 (by decide) ?_
      refine fw_cvV (As := [.int 1]) (rest := []) hC (c_X8_begin l D k ad g hg hp) (cwV 1 hts (gA_V A_718 A_719 A_720 A_601 A_687) rfl rfl rfl (by decide +kernel) ⟨Nat.le_of_ble_eq_true rfl, Nat.le_of_ble_eq_true rfl⟩) (va_recv hK hP (ci := 12) (q0 := 0) rfl rfl) rfl hl.1 rfl (Nat.le_of_ble_eq_true rfl) dX8_choices_42 ⟨Nat.le_of_ble_eq_true rfl, Nat.le_of_ble_eq_true rfl⟩ hP hD hS Jn.same (fun σ11 H locs hP hD hS hp => ?_)
      have hP : va_P D vwCl (WM k ad g (σ11)) H := hP
      have hD : va_D A (WM k ad g (σ11)) := hD
      refine lv_aload_n hx hb dX8_choices_45 rfl (lv_at hl 1 rfl) ?_
      refine lv_iconst (v := 1) hx hb dX8_choices_46 (by decide) ?_
      refine lv_iload_n hx hb dX8_choices_47 rfl (lv_at hl 2 rfl) ?_
      refine lv_iload_n hx hb dX8_choices_48 rfl (lv_at hl 3 rfl) ?_
      refine fw_cvV (As := [.int 1, .int p1, .int p2]) (rest := []) hC (c_X8_only l D k ad g hg hp) (cwV 3 hts (gA_V A_749 A_750 A_751 A_601 A_725) rfl rfl rfl (by decide +kernel) ⟨Nat.le_of_ble_eq_true rfl, Nat.le_of_ble_eq_true rfl⟩) (va_recv hK hP (ci := 12) (q0 := 0) rfl rfl) rfl hl.1 rfl (Nat.le_of_ble_eq_true rfl) dX8_choices_49 ⟨Nat.le_of_ble_eq_true rfl, Nat.le_of_ble_eq_true rfl⟩ hP hD hS Jn.same (fun σ13 H locs hP hD hS hp => ?_)
      have hP : va_P D vwCl (WM k ad g (σ13)) H := hP
      have hD : va_D A (WM k ad g (σ13)) := hD
      refine lv_aload_n hx hb dX8_choices_52 rfl (lv_at hl 1 rfl) ?_
      refine lv_iconst (v := 1) hx hb dX8_choices_53 (by decide) ?_
      refine lv_iload_n hx hb dX8_choices_54 rfl (lv_at hl 0 rfl) ?_
      refine fw_ciV (As := [.int 1, .int r8]) (rest := []) hC (c_X8_meet l D k ad g hg hp) (cwV 2 hts (gA_V A_721 A_722 A_723 A_601 A_717) rfl rfl rfl (by decide +kernel) ⟨Nat.le_of_ble_eq_true rfl, Nat.le_of_ble_eq_true rfl⟩) (va_recv hK hP (ci := 12) (q0 := 0) rfl rfl) rfl hl.1 rfl (Nat.le_of_ble_eq_true rfl) dX8_choices_55 ⟨Nat.le_of_ble_eq_true rfl, Nat.le_of_ble_eq_true rfl⟩ hP hD hS Jn.same (fun r14 σ15 H locs hP hD hS hp => ?_)
      have hP : va_P D vwCl (WM k ad g (σ15)) H := hP
      have hD : va_D A (WM k ad g (σ15)) := hD
      refine lv_if_eq (tgt := 65) hx hb dX8_choices_58 (by decide) (fun c16 => ?_) (fun c16 => ?_)
      · have hp := hp.1 c16
        refine lv_aload_n hx hb dX8_choices_65 rfl (lv_at hl 1 rfl) ?_
        refine lv_iconst (v := 1) hx hb dX8_choices_66 (by decide) ?_
        refine lv_iload_n hx hb dX8_choices_67 rfl (lv_at hl 0 rfl) ?_
        refine lv_iconst (v := 0) hx hb dX8_choices_68 (by decide) ?_
        refine fw_ciV (As := [.int 1, .int r8, .int 0]) (rest := []) hC (c_X8_countFrom l D k ad g hg 6 hp) (cwV 3 hts (gA_V A_774 A_775 A_776 A_601 A_777) rfl rfl rfl (by decide +kernel) ⟨Nat.le_of_ble_eq_true rfl, Nat.le_of_ble_eq_true rfl⟩) (va_recv hK hP (ci := 12) (q0 := 0) rfl rfl) rfl hl.1 rfl (Nat.le_of_ble_eq_true rfl) dX8_choices_69 ⟨Nat.le_of_ble_eq_true rfl, Nat.le_of_ble_eq_true rfl⟩ hP hD hS Jn.same (fun r17 σ18 H locs hP hD hS hp => ?_)
        have hP : va_P D vwCl (WM k ad g (σ18)) H := hP
        have hD : va_D A (WM k ad g (σ18)) := hD
        exact B_72 r17 (σ18) _ _ _  hP hD hS (lv_sub hl [] rfl) hp
      · have hp := hp.2 c16
        refine lv_iconst (v := 0) hx hb dX8_choices_61 (by decide) ?_
        refine lv_goto (tgt := 72) hx hb dX8_choices_62 (by decide) ?_
        exact B_72 0 (σ15) _ _ _  hP hD hS (lv_sub hl [] rfl) hp
    · have hp := hp.2 c7
      refine lv_aload_n hx hb dX8_choices_29 rfl (lv_at hl 0 rfl) ?_
      refine lv_iconst (v := 2) hx hb dX8_choices_30 (by decide) ?_
      refine fw_ciV (As := [.int 2]) (rest := []) hC (c_X8_refuse l D k ad g hg hp) (cwV 1 hts (gA_V A_629 A_630 A_631 A_601 A_594) rfl rfl rfl (by decide +kernel) ⟨Nat.le_of_ble_eq_true rfl, Nat.le_of_ble_eq_true rfl⟩) (va_recv hK hP (ci := 12) (q0 := 0) rfl rfl) rfl hl.1 rfl (Nat.le_of_ble_eq_true rfl) dX8_choices_31 ⟨Nat.le_of_ble_eq_true rfl, Nat.le_of_ble_eq_true rfl⟩ hP hD hS Jn.same (fun r19 σ20 H locs hP hD hS hp => ?_)
      have hP : va_P D vwCl (WM k ad g (σ20)) H := hP
      have hD : va_D A (WM k ad g (σ20)) := hD
      exact hret r19 (σ20) _ _ _ _ _ _ dX8_choices_34 rfl hP hD hS (Nat.le_of_ble_eq_true rfl) (Nat.le_of_ble_eq_true rfl) hp
  · have hp := hp.2 c4
    refine lv_aload_n hx hb dX8_choices_13 rfl (lv_at hl 0 rfl) ?_
    refine lv_iconst (v := 1) hx hb dX8_choices_14 (by decide) ?_
    refine fw_ciV (As := [.int 1]) (rest := []) hC (c_X8_refuse l D k ad g hg hp) (cwV 1 hts (gA_V A_629 A_630 A_631 A_601 A_594) rfl rfl rfl (by decide +kernel) ⟨Nat.le_of_ble_eq_true rfl, Nat.le_of_ble_eq_true rfl⟩) (va_recv hK hP (ci := 12) (q0 := 0) rfl rfl) rfl hl.1 rfl (Nat.le_of_ble_eq_true rfl) dX8_choices_15 ⟨Nat.le_of_ble_eq_true rfl, Nat.le_of_ble_eq_true rfl⟩ hP hD hS Jn.same (fun r21 σ22 H locs hP hD hS hp => ?_)
    have hP : va_P D vwCl (WM k ad g (σ22)) H := hP
    have hD : va_D A (WM k ad g (σ22)) := hD
    exact hret r21 (σ22) _ _ _ _ _ _ dX8_choices_18 rfl hP hD hS (Nat.le_of_ble_eq_true rfl) (Nat.le_of_ble_eq_true rfl) hp
def q_X8_isNarrower_53 (n : Nat) (c : Nat) (post : Int32 → Mem → Prop)  (s0 : Int32) (σ : Mem) : Prop := (bz s0 ∧ post s0 (σ))
def q_X8_isNarrower_52 (n : Nat) (c : Nat) (post : Int32 → Mem → Prop)  (σ : Mem) : Prop := (q_X8_isNarrower_53 n c post) 0 (σ)
def q_X8_isNarrower_22 (n : Nat) (c : Nat) (post : Int32 → Mem → Prop)  (s0 : Int32) (x1 : Int32) (x2 : Int32) (σ : Mem) : Prop := (∀ σ2001 : Mem, σ2001 = mst (σ) 0 0 s0 → ((((σ2001) 0 0) ≠ 0 → (q_X8_isNarrower_52 n c post) (σ2001)) ∧ (((σ2001) 0 0) = 0 → (q_X8_mayBe n c (fun (r2003 : Int32) (σ2004 : Mem) => (q_X8_mayBe n c (fun (r2005 : Int32) (σ2006 : Mem) => (((r2003 &&& (r2005 ^^^ (-1))) ≠ 0 → (q_X8_isNarrower_52 n c post) (σ2006)) ∧ ((r2003 &&& (r2005 ^^^ (-1))) = 0 → (q_X8_isNarrower_53 n c post) 1 (σ2006)))) x2 (σ2004))) x1 (σ2001)))))
def q_X8_isNarrower_21 (n : Nat) (c : Nat) (post : Int32 → Mem → Prop)  (x1 : Int32) (x2 : Int32) (σ : Mem) : Prop := (q_X8_isNarrower_22 n c post) 1 x1 x2 (σ)
def q_X8_isNarrower (n : Nat) (c : Nat) (post : Int32 → Mem → Prop) (p1 : Int32) (p2 : Int32) (σ : Mem) : Prop := (q_X8_isField n c (fun (r1 : Int32) (σ2 : Mem) => ((r1 = 0 → (q_X8_isNarrower_21 n c post) p1 p2 (σ2)) ∧ (¬ (r1 = 0) → (q_X8_isField n c (fun (r4 : Int32) (σ5 : Mem) => ((r4 = 0 → (q_X8_isNarrower_21 n c post) p1 p2 (σ5)) ∧ (¬ (r4 = 0) → (q_X8_isNarrower_22 n c post) 0 p1 p2 (σ5)))) p2 (σ2))))) p1 (σ))
abbrev rm_X8_isNarrower : Room := { frames := 7, cells := 0, slots := 0, locals := 328 }
abbrev wq_X8_isNarrower : List Cond := Cond.code yX8_isNarrower cX8_isNarrower 3 (some .boolean) :: wALL
set_option maxHeartbeats 4000000 in
set_option maxRecDepth 100000 in
theorem c_X8_isNarrower (l : Launch) (D : va_G) (k ad g : Nat → Nat) (hg : gok g) {sz : Nat} {σ : Mem} {p1 : Int32} {p2 : Int32} {post : Int32 → Mem → Prop} (hp : q_X8_isNarrower (g 0) (g 2) post p1 p2 σ) : Met l yX8_isNarrower wq_X8_isNarrower rm_X8_isNarrower (va_Pc [.ref (ad 0), .int p1, .int p2] (Pw D k (WM k ad g (σ)) sz)) (va_Qi post (fun u => Bw D (WM k ad g (σ)) sz (WM k ad g u)) (va_A (WM k ad g (σ)) sz)) 0 0 (va_A (WM k ad g (σ)) sz) := by
  refine fw_i (wf := fun u : Mem => WM k ad g u) (by decide) rfl (Nat.le_of_ble_eq_true rfl) ?_
  intro p e s m args below meth c A Q ls hC hP hD hl hret
  obtain ⟨⟨hx, hb, hml, hown, hts⟩, hG, hA⟩ := id hC
  have hK := hG.1
  have hS : va_S A s.heap s.heap [] := va_S.rf
  have hin_X8 : ∀ w ∈ u_ws RX8 TX8 15, w ∈ wq_X8_isNarrower := fun w h => List.mem_cons_of_mem _ (iU_X8 w h)
  have hf_41 := hts _ (List.mem_cons_of_mem _ A_595)
  have hl : lv_has ls 3 [(0, .ref (ad 0)), (1, .int p1), (2, .int p2)] := hl
  have hown : s.vm.findClass RX8 = some m.cls := hown
  unfold q_X8_isNarrower at hp
  have B_53 : ∀ (s0 : Int32) (σ : Mem) (H : Heap) (locs : List Loc) (ls : Array Slot), va_P D vwCl (WM k ad g (σ)) H → va_D A (WM k ad g (σ)) → va_S A s.heap H locs → lv_has ls 3 [] → (q_X8_isNarrower_53 (g 0) (g 2) post) s0 σ → W p l e rm_X8_isNarrower s m args below meth c H locs 0 0 Q (F0 m 53 ls [.int s0]) := by
    intro s0 σ H locs ls hP hD hS hl hp
    unfold q_X8_isNarrower_53 at hp
    exact hret s0 (σ) _ _ _ _ _ _ dX8_isNarrower_53 hp.1.1 hP hD hS (Nat.le_of_ble_eq_true rfl) (Nat.le_of_ble_eq_true rfl) hp.2
  have B_52 : ∀  (σ : Mem) (H : Heap) (locs : List Loc) (ls : Array Slot), va_P D vwCl (WM k ad g (σ)) H → va_D A (WM k ad g (σ)) → va_S A s.heap H locs → lv_has ls 3 [] → (q_X8_isNarrower_52 (g 0) (g 2) post)  σ → W p l e rm_X8_isNarrower s m args below meth c H locs 0 0 Q (F0 m 52 ls []) := by
    intro  σ H locs ls hP hD hS hl hp
    unfold q_X8_isNarrower_52 at hp
    refine lv_iconst (v := 0) hx hb dX8_isNarrower_52 (by decide) ?_
    exact B_53 0 (σ) _ _ _  hP hD hS (lv_sub hl [] rfl) hp
  have B_22 : ∀ (s0 : Int32) (x1 : Int32) (x2 : Int32) (σ : Mem) (H : Heap) (locs : List Loc) (ls : Array Slot), va_P D vwCl (WM k ad g (σ)) H → va_D A (WM k ad g (σ)) → va_S A s.heap H locs → lv_has ls 3 [(0, .ref (ad 0)), (1, .int x1), (2, .int x2)] → (q_X8_isNarrower_22 (g 0) (g 2) post) s0 x1 x2 σ → W p l e rm_X8_isNarrower s m args below meth c H locs 0 0 Q (F0 m 22 ls [.int s0, .ref (ad 0)]) := by
    intro s0 x1 x2 σ H locs ls hP hD hS hl hp
    unfold q_X8_isNarrower_22 at hp
    refine va_put (D := D) (ci := 12) (v := .int s0) (ty := .int) (C := RX8) (T := TX8) (N := 15) hx hb hts hin_X8 tyX8 tyX8_ok nmX8 hown hK hP hD hS 0 rfl rfl 0 (by decide) hf_41 (fun _ h9 => h9) rfl (by decide +kernel) rfl rfl (Nat.le_of_ble_eq_true rfl) dX8_isNarrower_22 (fun H locs hP hD hS => ?_)
    obtain ⟨σ20001, eσ20001⟩ : ∃ z : Mem, z = mst (σ) 0 0 s0 := ⟨_, rfl⟩
    have hp := hp σ20001 eσ20001
    have hP : va_P D vwCl (WM k ad g (σ20001)) H := by rw [eσ20001, WM_s (by decide)]; exact hP
    have hD : va_D A (WM k ad g (σ20001)) := by rw [eσ20001, WM_s (by decide)]; exact hD
    refine lv_aload_n hx hb dX8_isNarrower_25 rfl (lv_at hl 0 rfl) ?_
    refine va_get (D := D) (ci := 12) (C := RX8) (T := TX8) (N := 15) hx hb hts hin_X8 hown hK hP 0 rfl rfl 0 (by decide) hf_41 (fun _ h9 => h9) rfl dX8_isNarrower_26 ?_
    refine lv_if_ne (tgt := 52) hx hb dX8_isNarrower_29 (by decide) (fun c20002 => ?_) (fun c20002 => ?_)
    · have hp := hp.1 c20002
      exact B_52  (σ20001) _ _ _  hP hD hS (lv_sub hl [] rfl) hp
    · have hp := hp.2 c20002
      refine lv_aload_n hx hb dX8_isNarrower_32 rfl (lv_at hl 0 rfl) ?_
      refine lv_iload_n hx hb dX8_isNarrower_33 rfl (lv_at hl 1 rfl) ?_
      refine fw_ciV (As := [.int x1]) (rest := []) hC (c_X8_mayBe l D k ad g hg hp) (cwV 1 hts (gA_V A_799 A_800 A_801 A_601 A_761) rfl rfl rfl (by decide +kernel) ⟨Nat.le_of_ble_eq_true rfl, Nat.le_of_ble_eq_true rfl⟩) (va_recv hK hP (ci := 12) (q0 := 0) rfl rfl) rfl hl.1 rfl (Nat.le_of_ble_eq_true rfl) dX8_isNarrower_34 ⟨Nat.le_of_ble_eq_true rfl, Nat.le_of_ble_eq_true rfl⟩ hP hD hS Jn.same (fun r20003 σ20004 H locs hP hD hS hp => ?_)
      have hP : va_P D vwCl (WM k ad g (σ20004)) H := hP
      have hD : va_D A (WM k ad g (σ20004)) := hD
      refine lv_aload_n hx hb dX8_isNarrower_37 rfl (lv_at hl 0 rfl) ?_
      refine lv_iload_n hx hb dX8_isNarrower_38 rfl (lv_at hl 2 rfl) ?_
      refine fw_ciV (As := [.int x2]) (rest := [.int r20003]) hC (c_X8_mayBe l D k ad g hg hp) (cwV 1 hts (gA_V A_799 A_800 A_801 A_601 A_761) rfl rfl rfl (by decide +kernel) ⟨Nat.le_of_ble_eq_true rfl, Nat.le_of_ble_eq_true rfl⟩) (va_recv hK hP (ci := 12) (q0 := 0) rfl rfl) rfl hl.1 rfl (Nat.le_of_ble_eq_true rfl) dX8_isNarrower_39 ⟨Nat.le_of_ble_eq_true rfl, Nat.le_of_ble_eq_true rfl⟩ hP hD hS Jn.same (fun r20005 σ20006 H locs hP hD hS hp => ?_)
      have hP : va_P D vwCl (WM k ad g (σ20006)) H := hP
      have hD : va_D A (WM k ad g (σ20006)) := hD
      refine lv_iconst (v := (-1)) hx hb dX8_isNarrower_42 (by decide) ?_
      refine lv_ixor hx hb dX8_isNarrower_43 ?_
      refine lv_iand hx hb dX8_isNarrower_44 ?_
      refine lv_if_ne (tgt := 52) hx hb dX8_isNarrower_45 (by decide) (fun c20007 => ?_) (fun c20007 => ?_)
      · have hp := hp.1 c20007
        exact B_52  (σ20006) _ _ _  hP hD hS (lv_sub hl [] rfl) hp
      · have hp := hp.2 c20007
        refine lv_iconst (v := 1) hx hb dX8_isNarrower_48 (by decide) ?_
        refine lv_goto (tgt := 53) hx hb dX8_isNarrower_49 (by decide) ?_
        exact B_53 1 (σ20006) _ _ _  hP hD hS (lv_sub hl [] rfl) hp
  have B_21 : ∀ (x1 : Int32) (x2 : Int32) (σ : Mem) (H : Heap) (locs : List Loc) (ls : Array Slot), va_P D vwCl (WM k ad g (σ)) H → va_D A (WM k ad g (σ)) → va_S A s.heap H locs → lv_has ls 3 [(0, .ref (ad 0)), (1, .int x1), (2, .int x2)] → (q_X8_isNarrower_21 (g 0) (g 2) post) x1 x2 σ → W p l e rm_X8_isNarrower s m args below meth c H locs 0 0 Q (F0 m 21 ls [.ref (ad 0)]) := by
    intro x1 x2 σ H locs ls hP hD hS hl hp
    unfold q_X8_isNarrower_21 at hp
    refine lv_iconst (v := 1) hx hb dX8_isNarrower_21 (by decide) ?_
    exact B_22 1 x1 x2 (σ) _ _ _  hP hD hS (lv_sub hl [0, 1, 2] rfl) hp
  refine lv_aload_n hx hb dX8_isNarrower_0 rfl (lv_at hl 0 rfl) ?_
  refine lv_aload_n hx hb dX8_isNarrower_1 rfl (lv_at hl 0 rfl) ?_
  refine lv_iload_n hx hb dX8_isNarrower_2 rfl (lv_at hl 1 rfl) ?_
  refine fw_ciV (As := [.int p1]) (rest := [.ref (ad 0)]) hC (c_X8_isField l D k ad g hg hp) (cwV 1 hts (gA_V A_665 A_666 A_667 A_601 A_597) rfl rfl rfl (by decide +kernel) ⟨Nat.le_of_ble_eq_true rfl, Nat.le_of_ble_eq_true rfl⟩) (va_recv hK hP (ci := 12) (q0 := 0) rfl rfl) rfl hl.1 rfl (Nat.le_of_ble_eq_true rfl) dX8_isNarrower_3 ⟨Nat.le_of_ble_eq_true rfl, Nat.le_of_ble_eq_true rfl⟩ hP hD hS Jn.same (fun r1 σ2 H locs hP hD hS hp => ?_)
  have hP : va_P D vwCl (WM k ad g (σ2)) H := hP
  have hD : va_D A (WM k ad g (σ2)) := hD
  refine lv_if_eq (tgt := 21) hx hb dX8_isNarrower_6 (by decide) (fun c3 => ?_) (fun c3 => ?_)
  · have hp := hp.1 c3
    exact B_21 p1 p2 (σ2) _ _ _  hP hD hS (lv_sub hl [0, 1, 2] rfl) hp
  · have hp := hp.2 c3
    refine lv_aload_n hx hb dX8_isNarrower_9 rfl (lv_at hl 0 rfl) ?_
    refine lv_iload_n hx hb dX8_isNarrower_10 rfl (lv_at hl 2 rfl) ?_
    refine fw_ciV (As := [.int p2]) (rest := [.ref (ad 0)]) hC (c_X8_isField l D k ad g hg hp) (cwV 1 hts (gA_V A_665 A_666 A_667 A_601 A_597) rfl rfl rfl (by decide +kernel) ⟨Nat.le_of_ble_eq_true rfl, Nat.le_of_ble_eq_true rfl⟩) (va_recv hK hP (ci := 12) (q0 := 0) rfl rfl) rfl hl.1 rfl (Nat.le_of_ble_eq_true rfl) dX8_isNarrower_11 ⟨Nat.le_of_ble_eq_true rfl, Nat.le_of_ble_eq_true rfl⟩ hP hD hS Jn.same (fun r4 σ5 H locs hP hD hS hp => ?_)
    have hP : va_P D vwCl (WM k ad g (σ5)) H := hP
    have hD : va_D A (WM k ad g (σ5)) := hD
    refine lv_if_eq (tgt := 21) hx hb dX8_isNarrower_14 (by decide) (fun c6 => ?_) (fun c6 => ?_)
    · have hp := hp.1 c6
      exact B_21 p1 p2 (σ5) _ _ _  hP hD hS (lv_sub hl [0, 1, 2] rfl) hp
    · have hp := hp.2 c6
      refine lv_iconst (v := 0) hx hb dX8_isNarrower_17 (by decide) ?_
      refine lv_goto (tgt := 22) hx hb dX8_isNarrower_18 (by decide) ?_
      exact B_22 0 p1 p2 (σ5) _ _ _  hP hD hS (lv_sub hl [0, 1, 2] rfl) hp
def q_X8_add (n : Nat) (c : Nat) (post : Mem → Prop) (p1 : Int64) (σ : Mem) : Prop := (∀ σ1 : Mem, σ1 = mlg (σ) 0 14 (((dl64 ((σ) 0 14) ((σ) 0 15)) * 31) + p1) → post (σ1))
abbrev rm_X8_add : Room := { frames := 0, cells := 0, slots := 0, locals := 0 }
abbrev wq_X8_add : List Cond := Cond.code yX8_add cX8_add 3 none :: wALL
set_option maxHeartbeats 4000000 in
set_option maxRecDepth 100000 in
theorem c_X8_add (l : Launch) (D : va_G) (k ad g : Nat → Nat) (hg : gok g) {sz : Nat} {σ : Mem} {p1 : Int64} {post : Mem → Prop} (hp : q_X8_add (g 0) (g 2) post p1 σ) : Met l yX8_add wq_X8_add rm_X8_add (va_Pc [.ref (ad 0), .long p1] (Pw D k (WM k ad g (σ)) sz)) (va_Qv post (fun u => Bw D (WM k ad g (σ)) sz (WM k ad g u)) (va_A (WM k ad g (σ)) sz)) 0 0 (va_A (WM k ad g (σ)) sz) := by
  refine fw_v (wf := fun u : Mem => WM k ad g u) (by decide) rfl (Nat.le_of_ble_eq_true rfl) ?_
  intro p e s m args below meth c A Q ls hC hP hD hl hmn hret
  obtain ⟨⟨hx, hb, hml, hown, hts⟩, hG, hA⟩ := id hC
  have hK := hG.1
  have hS : va_S A s.heap s.heap [] := va_S.rf
  have hin_X8 : ∀ w ∈ u_ws RX8 TX8 15, w ∈ wq_X8_add := fun w h => List.mem_cons_of_mem _ (iU_X8 w h)
  have hf_276 := hts _ (List.mem_cons_of_mem _ A_933)
  have hl : lv_has ls 3 [(0, .ref (ad 0)), (1, .long p1)] := hl
  have hown : s.vm.findClass RX8 = some m.cls := hown
  unfold q_X8_add at hp
  refine lv_aload_n hx hb dX8_add_0 rfl (lv_at hl 0 rfl) ?_
  refine lv_aload_n hx hb dX8_add_1 rfl (lv_at hl 0 rfl) ?_
  refine va_get (D := D) (ci := 12) (C := RX8) (T := TX8) (N := 15) hx hb hts hin_X8 hown hK hP 0 rfl rfl 14 (by decide) hf_276 (fun _ h9 => h9) rfl dX8_add_2 ?_
  refine lv_ldc2 (v := 31) hx hb hown (hts _ (List.mem_cons_of_mem _ A_934)) dX8_add_5 ?_
  refine lv_lmul hx hb dX8_add_8 ?_
  refine lv_lload_n hx hb dX8_add_9 rfl (lv_at hl 1 rfl) ?_
  refine lv_ladd hx hb dX8_add_10 ?_
  refine va_put (D := D) (ci := 12) (v := .long (((dl64 ((σ) 0 14) ((σ) 0 15)) * 31) + p1)) (ty := .long) (C := RX8) (T := TX8) (N := 15) hx hb hts hin_X8 tyX8 tyX8_ok nmX8 hown hK hP hD hS 0 rfl rfl 14 (by decide) hf_276 (fun _ h9 => h9) rfl (by decide +kernel) rfl rfl (Nat.le_of_ble_eq_true rfl) dX8_add_11 (fun H locs hP hD hS => ?_)
  have hP := hP; have hD := hD
  rw [WM_sum] at hP hD
  obtain ⟨σ1, eσ1⟩ : ∃ z : Mem, z = mlg (σ) 0 14 (((dl64 ((σ) 0 14) ((σ) 0 15)) * 31) + p1) := ⟨_, rfl⟩
  have hp := hp σ1 eσ1
  have hP : va_P D vwCl (WM k ad g (σ1)) H := by rw [eσ1]; exact hP
  have hD : va_D A (WM k ad g (σ1)) := by rw [eσ1]; exact hD
  exact hret (σ1) _ _ _ _ _ _ dX8_add_14 hP hD hS (Nat.le_of_ble_eq_true rfl) (Nat.le_of_ble_eq_true rfl) hp
