def q_X8_begin_26 (n : Nat) (c : Nat) (post : Mem → Prop)  (σ : Mem) : Prop := post (σ)
def q_X8_begin_2 (n : Nat) (c : Nat) (post : Mem → Prop) (kE_26 : Mem → Prop) (kc_2 : Int32 → Int32 → Mem → Prop) (x1 : Int32) (x2 : Int32) (σ : Mem) : Prop := ((5 ≤ x2 → kE_26 (σ)) ∧ (¬ (5 ≤ x2) → (vp_in ((x1 * 5) + x2) 35 ∧ (∀ σ1003 : Mem, σ1003 = mst (σ) 7 (((x1 * 5) + x2).toNatClampNeg) 255 → (∀ v1004 : Int32, v1004 = x2 + 1 → kc_2 x1 v1004 (σ1003))))))
def q_X8_begin (n : Nat) (c : Nat) (post : Mem → Prop) (p1 : Int32) (σ : Mem) : Prop := (∃ n9 : Nat, lp_3 (q_X8_begin_2 n c post (q_X8_begin_26 n c post)) n9 p1 0 (σ))
abbrev rm_X8_begin : Room := { frames := 0, cells := 0, slots := 0, locals := 0 }
abbrev wq_X8_begin : List Cond := Cond.code yX8_begin cX8_begin 3 none :: wALL
set_option maxHeartbeats 4000000 in
set_option maxRecDepth 100000 in
theorem c_X8_begin (l : Launch) (D : va_G) (k ad g : Nat → Nat) (hg : gok g) {sz : Nat} {σ : Mem} {p1 : Int32} {post : Mem → Prop} (hp : q_X8_begin (g 0) (g 2) post p1 σ) : Met l yX8_begin wq_X8_begin rm_X8_begin (va_Pc [.ref (ad 0), .int p1] (Pw D k (WM k ad g (σ)) sz)) (va_Qv post (fun u => Bw D (WM k ad g (σ)) sz (WM k ad g u)) (va_A (WM k ad g (σ)) sz)) 0 0 (va_A (WM k ad g (σ)) sz) := by
  refine fw_v (wf := fun u : Mem => WM k ad g u) (by decide) rfl (Nat.le_of_ble_eq_true rfl) ?_
  intro p e s m args below meth c A Q ls hC hP hD hl hmn hret
  obtain ⟨⟨hx, hb, hml, hown, hts⟩, hG, hA⟩ := id hC
  have hK := hG.1
  have hS : va_S A s.heap s.heap [] := va_S.rf
  have hin_X8 : ∀ w ∈ u_ws RX8 TX8 15, w ∈ wq_X8_begin := fun w h => List.mem_cons_of_mem _ (iU_X8 w h)
  have hf_32 := hts _ (List.mem_cons_of_mem _ A_588)
  have hl : lv_has ls 3 [(0, .ref (ad 0)), (1, .int p1)] := hl
  have hown : s.vm.findClass RX8 = some m.cls := hown
  unfold q_X8_begin at hp
  have B_26 : ∀  (σ : Mem) (H : Heap) (locs : List Loc) (ls : Array Slot), va_P D vwCl (WM k ad g (σ)) H → va_D A (WM k ad g (σ)) → va_S A s.heap H locs → lv_has ls 3 [] → (q_X8_begin_26 (g 0) (g 2) post)  σ → W p l e rm_X8_begin s m args below meth c H locs 0 0 Q (F0 m 26 ls []) := by
    intro  σ H locs ls hP hD hS hl hp
    unfold q_X8_begin_26 at hp
    exact hret (σ) _ _ _ _ _ _ dX8_begin_26 hP hD hS (Nat.le_of_ble_eq_true rfl) (Nat.le_of_ble_eq_true rfl) hp
  have B_2 : ∀ (n_2 : Nat) (x1 : Int32) (x2 : Int32) (σ : Mem) (H : Heap) (locs : List Loc) (ls : Array Slot), va_P D vwCl (WM k ad g (σ)) H → va_D A (WM k ad g (σ)) → va_S A s.heap H locs → lv_has ls 3 [(0, .ref (ad 0)), (1, .int x1), (2, .int x2)] → lp_3 (q_X8_begin_2 (g 0) (g 2) post (q_X8_begin_26 (g 0) (g 2) post)) n_2 x1 x2 σ → W p l e rm_X8_begin s m args below meth c H locs 0 0 Q (F0 m 2 ls []) := by
    intro n_2
    induction n_2 with
    | zero => intro x1 x2 σ H locs ls hP hD hS hl hp; exact hp.elim
    | succ n_2 ih_2 =>
      intro x1 x2 σ H locs ls hP hD hS hl hp
      have hp : q_X8_begin_2 (g 0) (g 2) post (q_X8_begin_26 (g 0) (g 2) post) (lp_3 (q_X8_begin_2 (g 0) (g 2) post (q_X8_begin_26 (g 0) (g 2) post)) n_2) x1 x2 σ := hp
      unfold q_X8_begin_2 at hp
      refine lv_iload_n hx hb dX8_begin_2 rfl (lv_at hl 2 rfl) ?_
      refine lv_iconst (v := 5) hx hb dX8_begin_3 (by decide) ?_
      refine lv_icmp_ge (tgt := 26) hx hb dX8_begin_4 (by decide) (fun c10001 => ?_) (fun c10001 => ?_)
      · have hp := hp.1 c10001
        exact B_26  (σ) _ _ _  hP hD hS (lv_sub hl [] rfl) hp
      · have hp := hp.2 c10001
        refine lv_aload_n hx hb dX8_begin_7 rfl (lv_at hl 0 rfl) ?_
        refine va_get (D := D) (ci := 12) (C := RX8) (T := TX8) (N := 15) hx hb hts hin_X8 hown hK hP 0 rfl rfl 9 (by decide) hf_32 (fun _ h9 => h9) rfl dX8_begin_8 ?_
        refine lv_iload_n hx hb dX8_begin_11 rfl (lv_at hl 1 rfl) ?_
        refine lv_iconst (v := 5) hx hb dX8_begin_12 (by decide) ?_
        refine lv_imul hx hb dX8_begin_13 ?_
        refine lv_iload_n hx hb dX8_begin_14 rfl (lv_at hl 2 rfl) ?_
        refine lv_iadd hx hb dX8_begin_15 ?_
        refine lv_sipush (v := 255) hx hb dX8_begin_16 (by decide) ?_
        obtain ⟨h10002, hp⟩ := hp
        refine va_iast hx hb hK hP hD hS 7 0 rfl rfl h10002 dX8_begin_19 (fun H locs hP hD hS => ?_)
        obtain ⟨σ10003, eσ10003⟩ : ∃ z : Mem, z = mst (σ) 7 (((x1 * 5) + x2).toNatClampNeg) 255 := ⟨_, rfl⟩
        have hp := hp σ10003 eσ10003
        have hP : va_P D vwCl (WM k ad g (σ10003)) H := by rw [eσ10003, WM_s (by decide)]; exact hP
        have hD : va_D A (WM k ad g (σ10003)) := by rw [eσ10003, WM_s (by decide)]; exact hD
        obtain ⟨v10004, ev10004⟩ : ∃ z : Int32, z = x2 + 1 := ⟨_, rfl⟩
        have hp := hp v10004 ev10004
        refine lv_iinc (v := v10004) (lv' := [(2, .int v10004), (0, .ref (ad 0)), (1, .int x1)]) hx hb dX8_begin_20 hl (k := 2) rfl (by rw [ev10004]; rfl) (by decide) rfl (fun ls hl => ?_)
        refine lv_goto (tgt := 2) hx hb dX8_begin_23 (by decide) ?_
        exact ih_2 x1 v10004 (σ10003) _ _ _  hP hD hS (lv_sub hl [1, 2, 0] rfl) hp
  refine lv_iconst (v := 0) hx hb dX8_begin_0 (by decide) ?_
  refine lv_istore_n (lv' := [(2, .int 0), (0, .ref (ad 0)), (1, .int p1)]) hx hb dX8_begin_1 rfl hl (by decide) rfl (fun ls hl => ?_)
  obtain ⟨n9, hp⟩ := hp
  exact B_2 n9 p1 0 (σ) _ _ _  hP hD hS (lv_sub hl [1, 2, 0] rfl) hp
def q_X8_copy (n : Nat) (c : Nat) (post : Mem → Prop) (p1 : Int32) (p2 : Int32) (σ : Mem) : Prop := (¬ (p1 * 5) < 0 ∧ (¬ (p2 * 5) < 0 ∧ ((p1 * 5).toNatClampNeg + (5 : Int32).toNatClampNeg ≤ 35 ∧ ((p2 * 5).toNatClampNeg + (5 : Int32).toNatClampNeg ≤ 35 ∧ (∀ σ5 : Mem, σ5 = mup (σ) 7 (va_cpy ((σ) 7) ((σ) 7) ((p1 * 5).toNatClampNeg) ((p2 * 5).toNatClampNeg) ((5 : Int32).toNatClampNeg)) → post (σ5))))))
abbrev rm_X8_copy : Room := { frames := 1, cells := 0, slots := 0, locals := 80 }
abbrev wq_X8_copy : List Cond := Cond.code yX8_copy cX8_copy 3 none :: wALL
set_option maxHeartbeats 4000000 in
set_option maxRecDepth 100000 in
theorem c_X8_copy (l : Launch) (D : va_G) (k ad g : Nat → Nat) (hg : gok g) {sz : Nat} {σ : Mem} {p1 : Int32} {p2 : Int32} {post : Mem → Prop} (hp : q_X8_copy (g 0) (g 2) post p1 p2 σ) : Met l yX8_copy wq_X8_copy rm_X8_copy (va_Pc [.ref (ad 0), .int p1, .int p2] (Pw D k (WM k ad g (σ)) sz)) (va_Qv post (fun u => Bw D (WM k ad g (σ)) sz (WM k ad g u)) (va_A (WM k ad g (σ)) sz)) 0 0 (va_A (WM k ad g (σ)) sz) := by
  refine fw_v (wf := fun u : Mem => WM k ad g u) (by decide) rfl (Nat.le_of_ble_eq_true rfl) ?_
  intro p e s m args below meth c A Q ls hC hP hD hl hmn hret
  obtain ⟨⟨hx, hb, hml, hown, hts⟩, hG, hA⟩ := id hC
  have hK := hG.1
  have hS : va_S A s.heap s.heap [] := va_S.rf
  have hin_X8 : ∀ w ∈ u_ws RX8 TX8 15, w ∈ wq_X8_copy := fun w h => List.mem_cons_of_mem _ (iU_X8 w h)
  have hf_32 := hts _ (List.mem_cons_of_mem _ A_588)
  have hl : lv_has ls 3 [(0, .ref (ad 0)), (1, .int p1), (2, .int p2)] := hl
  have hown : s.vm.findClass RX8 = some m.cls := hown
  unfold q_X8_copy at hp
  refine lv_aload_n hx hb dX8_copy_0 rfl (lv_at hl 0 rfl) ?_
  refine va_get (D := D) (ci := 12) (C := RX8) (T := TX8) (N := 15) hx hb hts hin_X8 hown hK hP 0 rfl rfl 9 (by decide) hf_32 (fun _ h9 => h9) rfl dX8_copy_1 ?_
  refine lv_iload_n hx hb dX8_copy_4 rfl (lv_at hl 1 rfl) ?_
  refine lv_iconst (v := 5) hx hb dX8_copy_5 (by decide) ?_
  refine lv_imul hx hb dX8_copy_6 ?_
  refine lv_aload_n hx hb dX8_copy_7 rfl (lv_at hl 0 rfl) ?_
  refine va_get (D := D) (ci := 12) (C := RX8) (T := TX8) (N := 15) hx hb hts hin_X8 hown hK hP 0 rfl rfl 9 (by decide) hf_32 (fun _ h9 => h9) rfl dX8_copy_8 ?_
  refine lv_iload_n hx hb dX8_copy_11 rfl (lv_at hl 2 rfl) ?_
  refine lv_iconst (v := 5) hx hb dX8_copy_12 (by decide) ?_
  refine lv_imul hx hb dX8_copy_13 ?_
  refine lv_iconst (v := 5) hx hb dX8_copy_14 (by decide) ?_
  obtain ⟨h1, hp⟩ := hp
  obtain ⟨h2, hp⟩ := hp
  obtain ⟨h3, hp⟩ := hp
  obtain ⟨h4, hp⟩ := hp
  refine va_copyi hx hb (by rw [hml]; exact hl.1.symm) hown (hts _ (List.mem_cons_of_mem _ A_689)) (hts _ (List.mem_cons_of_mem _ A_35)) (hts _ (List.mem_cons_of_mem _ A_36)) (hts _ (List.mem_cons_of_mem _ A_37)) hK hP hD hS 7 7 0 0 rfl rfl rfl rfl rfl h1 h2 (by decide) h3 h4 (fun _ _ => rfl) (Nat.le_of_ble_eq_true rfl) (by decide +kernel) dX8_copy_15 (fun H locs hP hD hS => ?_)
  obtain ⟨σ5, eσ5⟩ : ∃ z : Mem, z = mup (σ) 7 (va_cpy ((σ) 7) ((σ) 7) ((p1 * 5).toNatClampNeg) ((p2 * 5).toNatClampNeg) ((5 : Int32).toNatClampNeg)) := ⟨_, rfl⟩
  have hp := hp σ5 eσ5
  have hP : va_P D vwCl (WM k ad g (σ5)) H := by rw [eσ5, WM_u (by decide)]; exact hP
  have hD : va_D A (WM k ad g (σ5)) := by rw [eσ5, WM_u (by decide)]; exact hD
  exact hret (σ5) _ _ _ _ _ _ dX8_copy_18 hP hD hS (Nat.le_of_ble_eq_true rfl) (Nat.le_of_ble_eq_true rfl) hp
def q_X8_setOf (n : Nat) (c : Nat) (post : Int32 → Mem → Prop) (p1 : Int32) (p2 : Int32) (σ : Mem) : Prop := (vp_in ((p1 * 5) + p2) 35 ∧ post ((σ) 7 (((p1 * 5) + p2).toNatClampNeg)) (σ))
abbrev rm_X8_setOf : Room := { frames := 0, cells := 0, slots := 0, locals := 0 }
abbrev wq_X8_setOf : List Cond := Cond.code yX8_setOf cX8_setOf 3 (some .int) :: wALL
set_option maxHeartbeats 4000000 in
set_option maxRecDepth 100000 in
theorem c_X8_setOf (l : Launch) (D : va_G) (k ad g : Nat → Nat) (hg : gok g) {sz : Nat} {σ : Mem} {p1 : Int32} {p2 : Int32} {post : Int32 → Mem → Prop} (hp : q_X8_setOf (g 0) (g 2) post p1 p2 σ) : Met l yX8_setOf wq_X8_setOf rm_X8_setOf (va_Pc [.ref (ad 0), .int p1, .int p2] (Pw D k (WM k ad g (σ)) sz)) (va_Qi post (fun u => Bw D (WM k ad g (σ)) sz (WM k ad g u)) (va_A (WM k ad g (σ)) sz)) 0 0 (va_A (WM k ad g (σ)) sz) := by
  refine fw_i (wf := fun u : Mem => WM k ad g u) (by decide) rfl (Nat.le_of_ble_eq_true rfl) ?_
  intro p e s m args below meth c A Q ls hC hP hD hl hret
  obtain ⟨⟨hx, hb, hml, hown, hts⟩, hG, hA⟩ := id hC
  have hK := hG.1
  have hS : va_S A s.heap s.heap [] := va_S.rf
  have hin_X8 : ∀ w ∈ u_ws RX8 TX8 15, w ∈ wq_X8_setOf := fun w h => List.mem_cons_of_mem _ (iU_X8 w h)
  have hf_32 := hts _ (List.mem_cons_of_mem _ A_588)
  have hl : lv_has ls 3 [(0, .ref (ad 0)), (1, .int p1), (2, .int p2)] := hl
  have hown : s.vm.findClass RX8 = some m.cls := hown
  unfold q_X8_setOf at hp
  refine lv_aload_n hx hb dX8_setOf_0 rfl (lv_at hl 0 rfl) ?_
  refine va_get (D := D) (ci := 12) (C := RX8) (T := TX8) (N := 15) hx hb hts hin_X8 hown hK hP 0 rfl rfl 9 (by decide) hf_32 (fun _ h9 => h9) rfl dX8_setOf_1 ?_
  refine lv_iload_n hx hb dX8_setOf_4 rfl (lv_at hl 1 rfl) ?_
  refine lv_iconst (v := 5) hx hb dX8_setOf_5 (by decide) ?_
  refine lv_imul hx hb dX8_setOf_6 ?_
  refine lv_iload_n hx hb dX8_setOf_7 rfl (lv_at hl 2 rfl) ?_
  refine lv_iadd hx hb dX8_setOf_8 ?_
  obtain ⟨h1, hp⟩ := hp
  refine va_iald hx hb hK hP 7 0 rfl rfl h1 dX8_setOf_9 ?_
  exact hret ((σ) 7 (((p1 * 5) + p2).toNatClampNeg)) (σ) _ _ _ _ _ _ dX8_setOf_10 rfl hP hD hS (Nat.le_of_ble_eq_true rfl) (Nat.le_of_ble_eq_true rfl) hp
def q_X8_count (n : Nat) (c : Nat) (post : Int32 → Mem → Prop) (p1 : Int32) (p2 : Int32) (σ : Mem) : Prop := (q_X8_setOf n c (fun (r1 : Int32) (σ2 : Mem) => (q_J6_bitCount_0f7a4 (fun (r3 : Int32) (σ4 : Mem) => post r3 (σ2)) r1 (σ2))) p1 p2 (σ))
abbrev rm_X8_count : Room := { frames := 1, cells := 0, slots := 0, locals := 22 }
abbrev wq_X8_count : List Cond := Cond.code yX8_count cX8_count 3 (some .int) :: wALL
set_option maxHeartbeats 4000000 in
set_option maxRecDepth 100000 in
theorem c_X8_count (l : Launch) (D : va_G) (k ad g : Nat → Nat) (hg : gok g) {sz : Nat} {σ : Mem} {p1 : Int32} {p2 : Int32} {post : Int32 → Mem → Prop} (hp : q_X8_count (g 0) (g 2) post p1 p2 σ) : Met l yX8_count wq_X8_count rm_X8_count (va_Pc [.ref (ad 0), .int p1, .int p2] (Pw D k (WM k ad g (σ)) sz)) (va_Qi post (fun u => Bw D (WM k ad g (σ)) sz (WM k ad g u)) (va_A (WM k ad g (σ)) sz)) 0 0 (va_A (WM k ad g (σ)) sz) := by
  refine fw_i (wf := fun u : Mem => WM k ad g u) (by decide) rfl (Nat.le_of_ble_eq_true rfl) ?_
  intro p e s m args below meth c A Q ls hC hP hD hl hret
  obtain ⟨⟨hx, hb, hml, hown, hts⟩, hG, hA⟩ := id hC
  have hK := hG.1
  have hS : va_S A s.heap s.heap [] := va_S.rf
  have hl : lv_has ls 3 [(0, .ref (ad 0)), (1, .int p1), (2, .int p2)] := hl
  have hown : s.vm.findClass RX8 = some m.cls := hown
  unfold q_X8_count at hp
  refine lv_aload_n hx hb dX8_count_0 rfl (lv_at hl 0 rfl) ?_
  refine lv_iload_n hx hb dX8_count_1 rfl (lv_at hl 1 rfl) ?_
  refine lv_iload_n hx hb dX8_count_2 rfl (lv_at hl 2 rfl) ?_
  refine fw_ciV (As := [.int p1, .int p2]) (rest := []) hC (c_X8_setOf l D k ad g hg hp) (cwV 2 hts (gA_V A_692 A_693 A_694 A_601 A_690) rfl rfl rfl (by decide +kernel) ⟨Nat.le_of_ble_eq_true rfl, Nat.le_of_ble_eq_true rfl⟩) (va_recv hK hP (ci := 12) (q0 := 0) rfl rfl) rfl hl.1 rfl (Nat.le_of_ble_eq_true rfl) dX8_count_3 ⟨Nat.le_of_ble_eq_true rfl, Nat.le_of_ble_eq_true rfl⟩ hP hD hS Jn.same (fun r1 σ2 H locs hP hD hS hp => ?_)
  have hP : va_P D vwCl (WM k ad g (σ2)) H := hP
  have hD : va_D A (WM k ad g (σ2)) := hD
  refine fw_ciS (As := [.int r1]) (rest := []) hC (c_J6_bitCount_0f7a4 l D k hp) (va_cwS 1 hts (gA_S A_695 A_149 A_150 A_141) rfl rfl rfl (by decide +kernel) ⟨Nat.le_of_ble_eq_true rfl, Nat.le_of_ble_eq_true rfl⟩) rfl hl.1 rfl (Nat.le_of_ble_eq_true rfl) dX8_count_6 ⟨Nat.le_of_ble_eq_true rfl, Nat.le_of_ble_eq_true rfl⟩ P_nil D_nil hS (Jn.pure (w0 := fun _ : Mem => []) hP hD) (fun r3 σ4 H locs hP hD hS hp => ?_)
  have hP : va_P D vwCl (WM k ad g (σ2)) H := hP
  have hD : va_D A (WM k ad g (σ2)) := hD
  exact hret r3 (σ2) _ _ _ _ _ _ dX8_count_9 rfl hP hD hS (Nat.le_of_ble_eq_true rfl) (Nat.le_of_ble_eq_true rfl) hp
def q_X8_least (n : Nat) (c : Nat) (post : Int32 → Mem → Prop) (p1 : Int32) (p2 : Int32) (σ : Mem) : Prop := (q_X8_setOf n c (fun (r1 : Int32) (σ2 : Mem) => (q_J6_numberOfTrailingZeros_0f7a4 (fun (r3 : Int32) (σ4 : Mem) => post r3 (σ2)) r1 (σ2))) p1 p2 (σ))
abbrev rm_X8_least : Room := { frames := 1, cells := 0, slots := 0, locals := 22 }
abbrev wq_X8_least : List Cond := Cond.code yX8_least cX8_least 3 (some .int) :: wALL
set_option maxHeartbeats 4000000 in
set_option maxRecDepth 100000 in
theorem c_X8_least (l : Launch) (D : va_G) (k ad g : Nat → Nat) (hg : gok g) {sz : Nat} {σ : Mem} {p1 : Int32} {p2 : Int32} {post : Int32 → Mem → Prop} (hp : q_X8_least (g 0) (g 2) post p1 p2 σ) : Met l yX8_least wq_X8_least rm_X8_least (va_Pc [.ref (ad 0), .int p1, .int p2] (Pw D k (WM k ad g (σ)) sz)) (va_Qi post (fun u => Bw D (WM k ad g (σ)) sz (WM k ad g u)) (va_A (WM k ad g (σ)) sz)) 0 0 (va_A (WM k ad g (σ)) sz) := by
  refine fw_i (wf := fun u : Mem => WM k ad g u) (by decide) rfl (Nat.le_of_ble_eq_true rfl) ?_
  intro p e s m args below meth c A Q ls hC hP hD hl hret
  obtain ⟨⟨hx, hb, hml, hown, hts⟩, hG, hA⟩ := id hC
  have hK := hG.1
  have hS : va_S A s.heap s.heap [] := va_S.rf
  have hl : lv_has ls 3 [(0, .ref (ad 0)), (1, .int p1), (2, .int p2)] := hl
  have hown : s.vm.findClass RX8 = some m.cls := hown
  unfold q_X8_least at hp
  refine lv_aload_n hx hb dX8_least_0 rfl (lv_at hl 0 rfl) ?_
  refine lv_iload_n hx hb dX8_least_1 rfl (lv_at hl 1 rfl) ?_
  refine lv_iload_n hx hb dX8_least_2 rfl (lv_at hl 2 rfl) ?_
  refine fw_ciV (As := [.int p1, .int p2]) (rest := []) hC (c_X8_setOf l D k ad g hg hp) (cwV 2 hts (gA_V A_692 A_693 A_694 A_601 A_690) rfl rfl rfl (by decide +kernel) ⟨Nat.le_of_ble_eq_true rfl, Nat.le_of_ble_eq_true rfl⟩) (va_recv hK hP (ci := 12) (q0 := 0) rfl rfl) rfl hl.1 rfl (Nat.le_of_ble_eq_true rfl) dX8_least_3 ⟨Nat.le_of_ble_eq_true rfl, Nat.le_of_ble_eq_true rfl⟩ hP hD hS Jn.same (fun r1 σ2 H locs hP hD hS hp => ?_)
  have hP : va_P D vwCl (WM k ad g (σ2)) H := hP
  have hD : va_D A (WM k ad g (σ2)) := hD
  refine fw_ciS (As := [.int r1]) (rest := []) hC (c_J6_numberOfTrailingZeros_0f7a4 l D k hp) (va_cwS 1 hts (gA_S A_699 A_700 A_150 A_696) rfl rfl rfl (by decide +kernel) ⟨Nat.le_of_ble_eq_true rfl, Nat.le_of_ble_eq_true rfl⟩) rfl hl.1 rfl (Nat.le_of_ble_eq_true rfl) dX8_least_6 ⟨Nat.le_of_ble_eq_true rfl, Nat.le_of_ble_eq_true rfl⟩ P_nil D_nil hS (Jn.pure (w0 := fun _ : Mem => []) hP hD) (fun r3 σ4 H locs hP hD hS hp => ?_)
  have hP : va_P D vwCl (WM k ad g (σ2)) H := hP
  have hD : va_D A (WM k ad g (σ2)) := hD
  exact hret r3 (σ2) _ _ _ _ _ _ dX8_least_9 rfl hP hD hS (Nat.le_of_ble_eq_true rfl) (Nat.le_of_ble_eq_true rfl) hp
def q_X8_canBe_19 (n : Nat) (c : Nat) (post : Int32 → Mem → Prop)  (s0 : Int32) (σ : Mem) : Prop := (bz s0 ∧ post s0 (σ))
def q_X8_canBe (n : Nat) (c : Nat) (post : Int32 → Mem → Prop) (p1 : Int32) (p2 : Int32) (p3 : Int32) (σ : Mem) : Prop := (q_X8_setOf n c (fun (r1 : Int32) (σ2 : Mem) => ((((r1 >>> (p3 &&& 31)) &&& 1) ≠ 1 → (q_X8_canBe_19 n c post) 0 (σ2)) ∧ (((r1 >>> (p3 &&& 31)) &&& 1) = 1 → (q_X8_canBe_19 n c post) 1 (σ2)))) p1 p2 (σ))
abbrev rm_X8_canBe : Room := { frames := 1, cells := 0, slots := 0, locals := 22 }
abbrev wq_X8_canBe : List Cond := Cond.code yX8_canBe cX8_canBe 4 (some .boolean) :: wALL
set_option maxHeartbeats 4000000 in
set_option maxRecDepth 100000 in
theorem c_X8_canBe (l : Launch) (D : va_G) (k ad g : Nat → Nat) (hg : gok g) {sz : Nat} {σ : Mem} {p1 : Int32} {p2 : Int32} {p3 : Int32} {post : Int32 → Mem → Prop} (hp : q_X8_canBe (g 0) (g 2) post p1 p2 p3 σ) : Met l yX8_canBe wq_X8_canBe rm_X8_canBe (va_Pc [.ref (ad 0), .int p1, .int p2, .int p3] (Pw D k (WM k ad g (σ)) sz)) (va_Qi post (fun u => Bw D (WM k ad g (σ)) sz (WM k ad g u)) (va_A (WM k ad g (σ)) sz)) 0 0 (va_A (WM k ad g (σ)) sz) := by
  refine fw_i (wf := fun u : Mem => WM k ad g u) (by decide) rfl (Nat.le_of_ble_eq_true rfl) ?_
  intro p e s m args below meth c A Q ls hC hP hD hl hret
  obtain ⟨⟨hx, hb, hml, hown, hts⟩, hG, hA⟩ := id hC
  have hK := hG.1
  have hS : va_S A s.heap s.heap [] := va_S.rf
  have hl : lv_has ls 4 [(0, .ref (ad 0)), (1, .int p1), (2, .int p2), (3, .int p3)] := hl
  have hown : s.vm.findClass RX8 = some m.cls := hown
  unfold q_X8_canBe at hp
  have B_19 : ∀ (s0 : Int32) (σ : Mem) (H : Heap) (locs : List Loc) (ls : Array Slot), va_P D vwCl (WM k ad g (σ)) H → va_D A (WM k ad g (σ)) → va_S A s.heap H locs → lv_has ls 4 [] → (q_X8_canBe_19 (g 0) (g 2) post) s0 σ → W p l e rm_X8_canBe s m args below meth c H locs 0 0 Q (F0 m 19 ls [.int s0]) := by
    intro s0 σ H locs ls hP hD hS hl hp
    unfold q_X8_canBe_19 at hp
    exact hret s0 (σ) _ _ _ _ _ _ dX8_canBe_19 hp.1.1 hP hD hS (Nat.le_of_ble_eq_true rfl) (Nat.le_of_ble_eq_true rfl) hp.2
  refine lv_aload_n hx hb dX8_canBe_0 rfl (lv_at hl 0 rfl) ?_
  refine lv_iload_n hx hb dX8_canBe_1 rfl (lv_at hl 1 rfl) ?_
  refine lv_iload_n hx hb dX8_canBe_2 rfl (lv_at hl 2 rfl) ?_
  refine fw_ciV (As := [.int p1, .int p2]) (rest := []) hC (c_X8_setOf l D k ad g hg hp) (cwV 2 hts (gA_V A_692 A_693 A_694 A_601 A_690) rfl rfl rfl (by decide +kernel) ⟨Nat.le_of_ble_eq_true rfl, Nat.le_of_ble_eq_true rfl⟩) (va_recv hK hP (ci := 12) (q0 := 0) rfl rfl) rfl hl.1 rfl (Nat.le_of_ble_eq_true rfl) dX8_canBe_3 ⟨Nat.le_of_ble_eq_true rfl, Nat.le_of_ble_eq_true rfl⟩ hP hD hS Jn.same (fun r1 σ2 H locs hP hD hS hp => ?_)
  have hP : va_P D vwCl (WM k ad g (σ2)) H := hP
  have hD : va_D A (WM k ad g (σ2)) := hD
  refine lv_iload_n hx hb dX8_canBe_6 rfl (lv_at hl 3 rfl) ?_
  refine lv_ishr hx hb dX8_canBe_7 ?_
  refine lv_iconst (v := 1) hx hb dX8_canBe_8 (by decide) ?_
  refine lv_iand hx hb dX8_canBe_9 ?_
  refine lv_iconst (v := 1) hx hb dX8_canBe_10 (by decide) ?_
  refine lv_icmp_ne (tgt := 18) hx hb dX8_canBe_11 (by decide) (fun c3 => ?_) (fun c3 => ?_)
  · have hp := hp.1 c3
    refine lv_iconst (v := 0) hx hb dX8_canBe_18 (by decide) ?_
    exact B_19 0 (σ2) _ _ _  hP hD hS (lv_sub hl [] rfl) hp
  · have hp := hp.2 c3
    refine lv_iconst (v := 1) hx hb dX8_canBe_14 (by decide) ?_
    refine lv_goto (tgt := 19) hx hb dX8_canBe_15 (by decide) ?_
    exact B_19 1 (σ2) _ _ _  hP hD hS (lv_sub hl [] rfl) hp
def q_X8_lets_159 (n : Nat) (c : Nat) (j : Nat) (post : Int32 → Mem → Prop)  (s0 : Int32) (σ : Mem) : Prop := post s0 (σ)
def q_X8_lets_132 (n : Nat) (c : Nat) (j : Nat) (post : Int32 → Mem → Prop)  (s0 : Int32) (s1 : Int32) (σ : Mem) : Prop := (q_X8_shifted (fun (r4001 : Int32) (σ4002 : Mem) => post r4001 (σ)) s1 s0 (σ))
def q_X8_lets_48 (n : Nat) (c : Nat) (j : Nat) (post : Int32 → Mem → Prop)  (s0 : Int32) (x4 : Int32) (σ : Mem) : Prop := ((sw_out ((σ) (100 + j) 0) 4 → (q_J6_bitCount_0f7a4 (fun (r3003 : Int32) (σ3004 : Mem) => ((r3003 ≠ 1 → (q_X8_lets_159 n c j post) 255 (σ)) ∧ (r3003 = 1 → (q_X8_lets_159 n c j post) ((255 : Int32) &&& (s0 ^^^ (-1))) (σ)))) s0 (σ))) ∧ (((σ) (100 + j) 0) = nI 0 → post ((σ) (100 + j) 3) (σ)) ∧ (((σ) (100 + j) 0) = nI 1 → post ((255 : Int32) &&& ((((1 : Int32) <<< (((σ) (100 + j) 3) &&& 31)) - 1) ^^^ (-1))) (σ)) ∧ (((σ) (100 + j) 0) = nI 2 → post (((2 : Int32) <<< (((σ) (100 + j) 3) &&& 31)) - 1) (σ)) ∧ (((σ) (100 + j) 0) = nI 3 → ((x4 = 0 → (q_X8_lets_132 n c j post) (-((σ) (100 + j) 4)) s0 (σ)) ∧ (¬ (x4 = 0) → (q_X8_lets_132 n c j post) ((σ) (100 + j) 4) s0 (σ)))))
def q_X8_lets_41 (n : Nat) (c : Nat) (j : Nat) (post : Int32 → Mem → Prop)  (s0 : Int32) (s1 : Int32) (x4 : Int32) (σ : Mem) : Prop := (q_X8_setOf n c (fun (r2001 : Int32) (σ2002 : Mem) => (q_X8_lets_48 n c j post) r2001 x4 (σ2002)) s1 s0 (σ))
def q_X8_lets_13 (n : Nat) (c : Nat) (j : Nat) (post : Int32 → Mem → Prop)  (s0 : Int32) (x1 : Int32) (σ : Mem) : Prop := ((((σ) (100 + j) 0) ≤ 2 → (q_X8_lets_48 n c j post) 0 s0 (σ)) ∧ (¬ (((σ) (100 + j) 0) ≤ 2) → ((s0 = 0 → (q_X8_lets_41 n c j post) ((σ) (100 + j) 2) x1 s0 (σ)) ∧ (¬ (s0 = 0) → (q_X8_lets_41 n c j post) ((σ) (100 + j) 3) x1 s0 (σ)))))
def q_X8_lets (n : Nat) (c : Nat) (j : Nat) (post : Int32 → Mem → Prop) (p1 : Int32) (p3 : Int32) (σ : Mem) : Prop := ((((σ) (100 + j) 2) ≠ p3 → (q_X8_lets_13 n c j post) 0 p1 (σ)) ∧ (((σ) (100 + j) 2) = p3 → (q_X8_lets_13 n c j post) 1 p1 (σ)))
abbrev rm_X8_lets : Room := { frames := 1, cells := 0, slots := 0, locals := 22 }
abbrev wq_X8_lets : List Cond := Cond.code yX8_lets cX8_lets 6 (some .int) :: wALL
set_option maxHeartbeats 4000000 in
set_option maxRecDepth 100000 in
theorem c_X8_lets (l : Launch) (D : va_G) (k ad g : Nat → Nat) (hg : gok g) {j : Nat} (hj : j < g 0) {sz : Nat} {σ : Mem} {p1 : Int32} {p3 : Int32} {post : Int32 → Mem → Prop} (hp : q_X8_lets (g 0) (g 2) j post p1 p3 σ) : Met l yX8_lets wq_X8_lets rm_X8_lets (va_Pc [.ref (ad 0), .int p1, .ref (ad (100 + j)), .int p3] (Pw D k (WM k ad g (σ)) sz)) (va_Qi post (fun u => Bw D (WM k ad g (σ)) sz (WM k ad g u)) (va_A (WM k ad g (σ)) sz)) 0 0 (va_A (WM k ad g (σ)) sz) := by
  refine fw_i (wf := fun u : Mem => WM k ad g u) (by decide) rfl (Nat.le_of_ble_eq_true rfl) ?_
  intro p e s m args below meth c A Q ls hC hP hD hl hret
  obtain ⟨⟨hx, hb, hml, hown, hts⟩, hG, hA⟩ := id hC
  have hK := hG.1
  have hS : va_S A s.heap s.heap [] := va_S.rf
  have hin_X7 : ∀ w ∈ u_ws RX7 TX7 7, w ∈ wq_X8_lets := fun w h => List.mem_cons_of_mem _ (iU_X7 w h)
  have hl : lv_has ls 6 [(0, .ref (ad 0)), (1, .int p1), (2, .ref (ad (100 + j))), (3, .int p3)] := hl
  have hown : s.vm.findClass RX8 = some m.cls := hown
  unfold q_X8_lets at hp
  have B_159 : ∀ (s0 : Int32) (σ : Mem) (H : Heap) (locs : List Loc) (ls : Array Slot), va_P D vwCl (WM k ad g (σ)) H → va_D A (WM k ad g (σ)) → va_S A s.heap H locs → lv_has ls 6 [] → (q_X8_lets_159 (g 0) (g 2) j post) s0 σ → W p l e rm_X8_lets s m args below meth c H locs 0 0 Q (F0 m 159 ls [.int s0]) := by
    intro s0 σ H locs ls hP hD hS hl hp
    unfold q_X8_lets_159 at hp
    exact hret s0 (σ) _ _ _ _ _ _ dX8_lets_159 rfl hP hD hS (Nat.le_of_ble_eq_true rfl) (Nat.le_of_ble_eq_true rfl) hp
  have B_132 : ∀ (s0 : Int32) (s1 : Int32) (σ : Mem) (H : Heap) (locs : List Loc) (ls : Array Slot), va_P D vwCl (WM k ad g (σ)) H → va_D A (WM k ad g (σ)) → va_S A s.heap H locs → lv_has ls 6 [] → (q_X8_lets_132 (g 0) (g 2) j post) s0 s1 σ → W p l e rm_X8_lets s m args below meth c H locs 0 0 Q (F0 m 132 ls [.int s0, .int s1]) := by
    intro s0 s1 σ H locs ls hP hD hS hl hp
    unfold q_X8_lets_132 at hp
    refine fw_ciS (As := [.int s1, .int s0]) (rest := []) hC (c_X8_shifted l D k hp) (va_cwS 2 hts (gA_S A_704 A_705 A_601 A_702) rfl rfl rfl (by decide +kernel) ⟨Nat.le_of_ble_eq_true rfl, Nat.le_of_ble_eq_true rfl⟩) rfl hl.1 rfl (Nat.le_of_ble_eq_true rfl) dX8_lets_132 ⟨Nat.le_of_ble_eq_true rfl, Nat.le_of_ble_eq_true rfl⟩ P_nil D_nil hS (Jn.pure (w0 := fun _ : Mem => []) hP hD) (fun r40001 σ40002 H locs hP hD hS hp => ?_)
    have hP : va_P D vwCl (WM k ad g (σ)) H := hP
    have hD : va_D A (WM k ad g (σ)) := hD
    exact hret r40001 (σ) _ _ _ _ _ _ dX8_lets_135 rfl hP hD hS (Nat.le_of_ble_eq_true rfl) (Nat.le_of_ble_eq_true rfl) hp
  have B_48 : ∀ (s0 : Int32) (x4 : Int32) (σ : Mem) (H : Heap) (locs : List Loc) (ls : Array Slot), va_P D vwCl (WM k ad g (σ)) H → va_D A (WM k ad g (σ)) → va_S A s.heap H locs → lv_has ls 6 [(2, .ref (ad (100 + j))), (4, .int x4)] → (q_X8_lets_48 (g 0) (g 2) j post) s0 x4 σ → W p l e rm_X8_lets s m args below meth c H locs 0 0 Q (F0 m 48 ls [.int s0]) := by
    intro s0 x4 σ H locs ls hP hD hS hl hp
    unfold q_X8_lets_48 at hp
    refine lv_istore (lv' := [(5, .int s0), (2, .ref (ad (100 + j))), (4, .int x4)]) hx hb dX8_lets_48 hl (by decide) rfl (fun ls hl => ?_)
    refine lv_aload_n hx hb dX8_lets_50 rfl (lv_at hl 1 rfl) ?_
    refine va_getN (D := D) (ci := 11) (C := RX7) (T := TX7) (N := 7) hx hb hts hin_X7 hown hK hP (lnP g j) (WM_ln k ad g (σ) hj) rfl 0 (by decide) (va_Nw.use rfl (GG.nf hG (q := (RX8, 79, "MeetjoinModel$Line", "kind", "I", "MeetjoinModel")) 6 rfl)) (fun _ h9 => h9) rfl dX8_lets_51 ?_
    rcases sw_in ((σ) (100 + j) 0) 4 (by decide) with c30001 | ⟨j30002, hj30002, ej30002⟩
    · have hp := hp.1 c30001
      refine lv_tableOut (tgt := 136) hx hb dX8_lets_54 (sw_of c30001) (by decide) ?_
      refine lv_iload hx hb dX8_lets_136 (lv_at hl 0 rfl) ?_
      refine fw_ciS (As := [.int s0]) (rest := []) hC (c_J6_bitCount_0f7a4 l D k hp) (va_cwS 1 hts (gA_S A_695 A_149 A_150 A_141) rfl rfl rfl (by decide +kernel) ⟨Nat.le_of_ble_eq_true rfl, Nat.le_of_ble_eq_true rfl⟩) rfl hl.1 rfl (Nat.le_of_ble_eq_true rfl) dX8_lets_138 ⟨Nat.le_of_ble_eq_true rfl, Nat.le_of_ble_eq_true rfl⟩ P_nil D_nil hS (Jn.pure (w0 := fun _ : Mem => []) hP hD) (fun r30003 σ30004 H locs hP hD hS hp => ?_)
      have hP : va_P D vwCl (WM k ad g (σ)) H := hP
      have hD : va_D A (WM k ad g (σ)) := hD
      refine lv_iconst (v := 1) hx hb dX8_lets_141 (by decide) ?_
      refine lv_icmp_ne (tgt := 156) hx hb dX8_lets_142 (by decide) (fun c30005 => ?_) (fun c30005 => ?_)
      · have hp := hp.1 c30005
        refine lv_sipush (v := 255) hx hb dX8_lets_156 (by decide) ?_
        exact B_159 255 (σ) _ _ _  hP hD hS (lv_sub hl [] rfl) hp
      · have hp := hp.2 c30005
        refine lv_sipush (v := 255) hx hb dX8_lets_145 (by decide) ?_
        refine lv_iload hx hb dX8_lets_148 (lv_at hl 0 rfl) ?_
        refine lv_iconst (v := (-1)) hx hb dX8_lets_150 (by decide) ?_
        refine lv_ixor hx hb dX8_lets_151 ?_
        refine lv_iand hx hb dX8_lets_152 ?_
        refine lv_goto (tgt := 159) hx hb dX8_lets_153 (by decide) ?_
        exact B_159 ((255 : Int32) &&& (s0 ^^^ (-1))) (σ) _ _ _  hP hD hS (lv_sub hl [] rfl) hp
    · have hp := hp.2
      rcases (show j30002 = 0 ∨ j30002 = 1 ∨ j30002 = 2 ∨ j30002 = 3 by omega) with rfl | rfl | rfl | rfl
      · have hp := hp.1 ej30002
        refine lv_tableIn (tgt := 84) (off := 30) hx hb dX8_lets_54 (by rw [ej30002]; decide) (by rw [ej30002]; decide) (by rw [ej30002]; rfl) (by decide) ?_
        refine lv_aload_n hx hb dX8_lets_84 rfl (lv_at hl 1 rfl) ?_
        refine va_getN (D := D) (ci := 11) (C := RX7) (T := TX7) (N := 7) hx hb hts hin_X7 hown hK hP (lnP g j) (WM_ln k ad g (σ) hj) rfl 3 (by decide) (va_Nw.use rfl (GG.nf hG (q := (RX8, 91, "MeetjoinModel$Line", "what", "I", "MeetjoinModel")) 7 rfl)) (fun _ h9 => h9) rfl dX8_lets_85 ?_
        exact hret ((σ) (100 + j) 3) (σ) _ _ _ _ _ _ dX8_lets_88 rfl hP hD hS (Nat.le_of_ble_eq_true rfl) (Nat.le_of_ble_eq_true rfl) hp
      · have hp := hp.2.1 ej30002
        refine lv_tableIn (tgt := 89) (off := 35) hx hb dX8_lets_54 (by rw [ej30002]; decide) (by rw [ej30002]; decide) (by rw [ej30002]; rfl) (by decide) ?_
        refine lv_sipush (v := 255) hx hb dX8_lets_89 (by decide) ?_
        refine lv_iconst (v := 1) hx hb dX8_lets_92 (by decide) ?_
        refine lv_aload_n hx hb dX8_lets_93 rfl (lv_at hl 1 rfl) ?_
        refine va_getN (D := D) (ci := 11) (C := RX7) (T := TX7) (N := 7) hx hb hts hin_X7 hown hK hP (lnP g j) (WM_ln k ad g (σ) hj) rfl 3 (by decide) (va_Nw.use rfl (GG.nf hG (q := (RX8, 91, "MeetjoinModel$Line", "what", "I", "MeetjoinModel")) 7 rfl)) (fun _ h9 => h9) rfl dX8_lets_94 ?_
        refine lv_ishl hx hb dX8_lets_97 ?_
        refine lv_iconst (v := 1) hx hb dX8_lets_98 (by decide) ?_
        refine lv_isub hx hb dX8_lets_99 ?_
        refine lv_iconst (v := (-1)) hx hb dX8_lets_100 (by decide) ?_
        refine lv_ixor hx hb dX8_lets_101 ?_
        refine lv_iand hx hb dX8_lets_102 ?_
        exact hret ((255 : Int32) &&& ((((1 : Int32) <<< (((σ) (100 + j) 3) &&& 31)) - 1) ^^^ (-1))) (σ) _ _ _ _ _ _ dX8_lets_103 rfl hP hD hS (Nat.le_of_ble_eq_true rfl) (Nat.le_of_ble_eq_true rfl) hp
      · have hp := hp.2.2.1 ej30002
        refine lv_tableIn (tgt := 104) (off := 50) hx hb dX8_lets_54 (by rw [ej30002]; decide) (by rw [ej30002]; decide) (by rw [ej30002]; rfl) (by decide) ?_
        refine lv_iconst (v := 2) hx hb dX8_lets_104 (by decide) ?_
        refine lv_aload_n hx hb dX8_lets_105 rfl (lv_at hl 1 rfl) ?_
        refine va_getN (D := D) (ci := 11) (C := RX7) (T := TX7) (N := 7) hx hb hts hin_X7 hown hK hP (lnP g j) (WM_ln k ad g (σ) hj) rfl 3 (by decide) (va_Nw.use rfl (GG.nf hG (q := (RX8, 91, "MeetjoinModel$Line", "what", "I", "MeetjoinModel")) 7 rfl)) (fun _ h9 => h9) rfl dX8_lets_106 ?_
        refine lv_ishl hx hb dX8_lets_109 ?_
        refine lv_iconst (v := 1) hx hb dX8_lets_110 (by decide) ?_
        refine lv_isub hx hb dX8_lets_111 ?_
        exact hret (((2 : Int32) <<< (((σ) (100 + j) 3) &&& 31)) - 1) (σ) _ _ _ _ _ _ dX8_lets_112 rfl hP hD hS (Nat.le_of_ble_eq_true rfl) (Nat.le_of_ble_eq_true rfl) hp
      · have hp := hp.2.2.2 ej30002
        refine lv_tableIn (tgt := 113) (off := 59) hx hb dX8_lets_54 (by rw [ej30002]; decide) (by rw [ej30002]; decide) (by rw [ej30002]; rfl) (by decide) ?_
        refine lv_iload hx hb dX8_lets_113 (lv_at hl 0 rfl) ?_
        refine lv_iload hx hb dX8_lets_115 (lv_at hl 2 rfl) ?_
        refine lv_if_eq (tgt := 127) hx hb dX8_lets_117 (by decide) (fun c30006 => ?_) (fun c30006 => ?_)
        · have hp := hp.1 c30006
          refine lv_aload_n hx hb dX8_lets_127 rfl (lv_at hl 1 rfl) ?_
          refine va_getN (D := D) (ci := 11) (C := RX7) (T := TX7) (N := 7) hx hb hts hin_X7 hown hK hP (lnP g j) (WM_ln k ad g (σ) hj) rfl 4 (by decide) (va_Nw.use rfl (GG.nf hG (q := (RX8, 94, "MeetjoinModel$Line", "by", "I", "MeetjoinModel")) 8 rfl)) (fun _ h9 => h9) rfl dX8_lets_128 ?_
          refine lv_ineg hx hb dX8_lets_131 ?_
          exact B_132 (-((σ) (100 + j) 4)) s0 (σ) _ _ _  hP hD hS (lv_sub hl [] rfl) hp
        · have hp := hp.2 c30006
          refine lv_aload_n hx hb dX8_lets_120 rfl (lv_at hl 1 rfl) ?_
          refine va_getN (D := D) (ci := 11) (C := RX7) (T := TX7) (N := 7) hx hb hts hin_X7 hown hK hP (lnP g j) (WM_ln k ad g (σ) hj) rfl 4 (by decide) (va_Nw.use rfl (GG.nf hG (q := (RX8, 94, "MeetjoinModel$Line", "by", "I", "MeetjoinModel")) 8 rfl)) (fun _ h9 => h9) rfl dX8_lets_121 ?_
          refine lv_goto (tgt := 132) hx hb dX8_lets_124 (by decide) ?_
          exact B_132 ((σ) (100 + j) 4) s0 (σ) _ _ _  hP hD hS (lv_sub hl [] rfl) hp
  have B_41 : ∀ (s0 : Int32) (s1 : Int32) (x4 : Int32) (σ : Mem) (H : Heap) (locs : List Loc) (ls : Array Slot), va_P D vwCl (WM k ad g (σ)) H → va_D A (WM k ad g (σ)) → va_S A s.heap H locs → lv_has ls 6 [(2, .ref (ad (100 + j))), (4, .int x4)] → (q_X8_lets_41 (g 0) (g 2) j post) s0 s1 x4 σ → W p l e rm_X8_lets s m args below meth c H locs 0 0 Q (F0 m 41 ls [.int s0, .int s1, .ref (ad 0)]) := by
    intro s0 s1 x4 σ H locs ls hP hD hS hl hp
    unfold q_X8_lets_41 at hp
    refine fw_ciV (As := [.int s1, .int s0]) (rest := []) hC (c_X8_setOf l D k ad g hg hp) (cwV 2 hts (gA_V A_692 A_693 A_694 A_601 A_690) rfl rfl rfl (by decide +kernel) ⟨Nat.le_of_ble_eq_true rfl, Nat.le_of_ble_eq_true rfl⟩) (va_recv hK hP (ci := 12) (q0 := 0) rfl rfl) rfl hl.1 rfl (Nat.le_of_ble_eq_true rfl) dX8_lets_41 ⟨Nat.le_of_ble_eq_true rfl, Nat.le_of_ble_eq_true rfl⟩ hP hD hS Jn.same (fun r20001 σ20002 H locs hP hD hS hp => ?_)
    have hP : va_P D vwCl (WM k ad g (σ20002)) H := hP
    have hD : va_D A (WM k ad g (σ20002)) := hD
    refine lv_goto (tgt := 48) hx hb dX8_lets_44 (by decide) ?_
    exact B_48 r20001 x4 (σ20002) _ _ _  hP hD hS (lv_sub hl [0, 1] rfl) hp
  have B_13 : ∀ (s0 : Int32) (x1 : Int32) (σ : Mem) (H : Heap) (locs : List Loc) (ls : Array Slot), va_P D vwCl (WM k ad g (σ)) H → va_D A (WM k ad g (σ)) → va_S A s.heap H locs → lv_has ls 6 [(0, .ref (ad 0)), (1, .int x1), (2, .ref (ad (100 + j)))] → (q_X8_lets_13 (g 0) (g 2) j post) s0 x1 σ → W p l e rm_X8_lets s m args below meth c H locs 0 0 Q (F0 m 13 ls [.int s0]) := by
    intro s0 x1 σ H locs ls hP hD hS hl hp
    unfold q_X8_lets_13 at hp
    refine lv_istore (lv' := [(4, .int s0), (0, .ref (ad 0)), (1, .int x1), (2, .ref (ad (100 + j)))]) hx hb dX8_lets_13 hl (by decide) rfl (fun ls hl => ?_)
    refine lv_aload_n hx hb dX8_lets_15 rfl (lv_at hl 3 rfl) ?_
    refine va_getN (D := D) (ci := 11) (C := RX7) (T := TX7) (N := 7) hx hb hts hin_X7 hown hK hP (lnP g j) (WM_ln k ad g (σ) hj) rfl 0 (by decide) (va_Nw.use rfl (GG.nf hG (q := (RX8, 79, "MeetjoinModel$Line", "kind", "I", "MeetjoinModel")) 6 rfl)) (fun _ h9 => h9) rfl dX8_lets_16 ?_
    refine lv_iconst (v := 2) hx hb dX8_lets_19 (by decide) ?_
    refine lv_icmp_le (tgt := 47) hx hb dX8_lets_20 (by decide) (fun c10001 => ?_) (fun c10001 => ?_)
    · have hp := hp.1 c10001
      refine lv_iconst (v := 0) hx hb dX8_lets_47 (by decide) ?_
      exact B_48 0 s0 (σ) _ _ _  hP hD hS (lv_sub hl [3, 0] rfl) hp
    · have hp := hp.2 c10001
      refine lv_aload_n hx hb dX8_lets_23 rfl (lv_at hl 1 rfl) ?_
      refine lv_iload_n hx hb dX8_lets_24 rfl (lv_at hl 2 rfl) ?_
      refine lv_iload hx hb dX8_lets_25 (lv_at hl 0 rfl) ?_
      refine lv_if_eq (tgt := 37) hx hb dX8_lets_27 (by decide) (fun c10002 => ?_) (fun c10002 => ?_)
      · have hp := hp.1 c10002
        refine lv_aload_n hx hb dX8_lets_37 rfl (lv_at hl 3 rfl) ?_
        refine va_getN (D := D) (ci := 11) (C := RX7) (T := TX7) (N := 7) hx hb hts hin_X7 hown hK hP (lnP g j) (WM_ln k ad g (σ) hj) rfl 2 (by decide) (va_Nw.use rfl (GG.nf hG (q := (RX8, 65, "MeetjoinModel$Line", "field", "I", "MeetjoinModel")) 4 rfl)) (fun _ h9 => h9) rfl dX8_lets_38 ?_
        exact B_41 ((σ) (100 + j) 2) x1 s0 (σ) _ _ _  hP hD hS (lv_sub hl [3, 0] rfl) hp
      · have hp := hp.2 c10002
        refine lv_aload_n hx hb dX8_lets_30 rfl (lv_at hl 3 rfl) ?_
        refine va_getN (D := D) (ci := 11) (C := RX7) (T := TX7) (N := 7) hx hb hts hin_X7 hown hK hP (lnP g j) (WM_ln k ad g (σ) hj) rfl 3 (by decide) (va_Nw.use rfl (GG.nf hG (q := (RX8, 91, "MeetjoinModel$Line", "what", "I", "MeetjoinModel")) 7 rfl)) (fun _ h9 => h9) rfl dX8_lets_31 ?_
        refine lv_goto (tgt := 41) hx hb dX8_lets_34 (by decide) ?_
        exact B_41 ((σ) (100 + j) 3) x1 s0 (σ) _ _ _  hP hD hS (lv_sub hl [3, 0] rfl) hp
  refine lv_aload_n hx hb dX8_lets_0 rfl (lv_at hl 2 rfl) ?_
  refine va_getN (D := D) (ci := 11) (C := RX7) (T := TX7) (N := 7) hx hb hts hin_X7 hown hK hP (lnP g j) (WM_ln k ad g (σ) hj) rfl 2 (by decide) (va_Nw.use rfl (GG.nf hG (q := (RX8, 65, "MeetjoinModel$Line", "field", "I", "MeetjoinModel")) 4 rfl)) (fun _ h9 => h9) rfl dX8_lets_1 ?_
  refine lv_iload_n hx hb dX8_lets_4 rfl (lv_at hl 3 rfl) ?_
  refine lv_icmp_ne (tgt := 12) hx hb dX8_lets_5 (by decide) (fun c1 => ?_) (fun c1 => ?_)
  · have hp := hp.1 c1
    refine lv_iconst (v := 0) hx hb dX8_lets_12 (by decide) ?_
    exact B_13 0 p1 (σ) _ _ _  hP hD hS (lv_sub hl [0, 1, 2] rfl) hp
  · have hp := hp.2 c1
    refine lv_iconst (v := 1) hx hb dX8_lets_8 (by decide) ?_
    refine lv_goto (tgt := 13) hx hb dX8_lets_9 (by decide) ?_
    exact B_13 1 p1 (σ) _ _ _  hP hD hS (lv_sub hl [0, 1, 2] rfl) hp
def q_X8_takes_44 (n : Nat) (c : Nat) (j : Nat) (post : Int32 → Mem → Prop)  (s0 : Int32) (σ : Mem) : Prop := (bz s0 ∧ post s0 (σ))
def q_X8_takes (n : Nat) (c : Nat) (j : Nat) (post : Int32 → Mem → Prop) (p1 : Int32) (p3 : Int32) (σ : Mem) : Prop := (q_X8_setOf n c (fun (r1 : Int32) (σ2 : Mem) => (∀ v3 : Int32, v3 = ((p1 * 5) + p3) → (vp_in v3 35 ∧ (q_X8_lets n c j (fun (r5 : Int32) (σ6 : Mem) => (vp_in v3 35 ∧ (∀ σ8 : Mem, σ8 = mst (σ6) 7 v3.toNatClampNeg (((σ2) 7 v3.toNatClampNeg) &&& r5) → (q_X8_setOf n c (fun (r9 : Int32) (σ10 : Mem) => ((r9 = r1 → (q_X8_takes_44 n c j post) 0 (σ10)) ∧ (¬ (r9 = r1) → (q_X8_takes_44 n c j post) 1 (σ10)))) p1 p3 (σ8))))) p1 p3 (σ2))))) p1 p3 (σ))
abbrev rm_X8_takes : Room := { frames := 2, cells := 0, slots := 0, locals := 47 }
abbrev wq_X8_takes : List Cond := Cond.code yX8_takes cX8_takes 5 (some .boolean) :: wALL
set_option maxHeartbeats 4000000 in
set_option maxRecDepth 100000 in
theorem c_X8_takes (l : Launch) (D : va_G) (k ad g : Nat → Nat) (hg : gok g) {j : Nat} (hj : j < g 0) {sz : Nat} {σ : Mem} {p1 : Int32} {p3 : Int32} {post : Int32 → Mem → Prop} (hp : q_X8_takes (g 0) (g 2) j post p1 p3 σ) : Met l yX8_takes wq_X8_takes rm_X8_takes (va_Pc [.ref (ad 0), .int p1, .ref (ad (100 + j)), .int p3] (Pw D k (WM k ad g (σ)) sz)) (va_Qi post (fun u => Bw D (WM k ad g (σ)) sz (WM k ad g u)) (va_A (WM k ad g (σ)) sz)) 0 0 (va_A (WM k ad g (σ)) sz) := by
  refine fw_i (wf := fun u : Mem => WM k ad g u) (by decide) rfl (Nat.le_of_ble_eq_true rfl) ?_
  intro p e s m args below meth c A Q ls hC hP hD hl hret
  obtain ⟨⟨hx, hb, hml, hown, hts⟩, hG, hA⟩ := id hC
  have hK := hG.1
  have hS : va_S A s.heap s.heap [] := va_S.rf
  have hin_X8 : ∀ w ∈ u_ws RX8 TX8 15, w ∈ wq_X8_takes := fun w h => List.mem_cons_of_mem _ (iU_X8 w h)
  have hf_32 := hts _ (List.mem_cons_of_mem _ A_588)
  have hl : lv_has ls 5 [(0, .ref (ad 0)), (1, .int p1), (2, .ref (ad (100 + j))), (3, .int p3)] := hl
  have hown : s.vm.findClass RX8 = some m.cls := hown
  unfold q_X8_takes at hp
  have B_44 : ∀ (s0 : Int32) (σ : Mem) (H : Heap) (locs : List Loc) (ls : Array Slot), va_P D vwCl (WM k ad g (σ)) H → va_D A (WM k ad g (σ)) → va_S A s.heap H locs → lv_has ls 5 [] → (q_X8_takes_44 (g 0) (g 2) j post) s0 σ → W p l e rm_X8_takes s m args below meth c H locs 0 0 Q (F0 m 44 ls [.int s0]) := by
    intro s0 σ H locs ls hP hD hS hl hp
    unfold q_X8_takes_44 at hp
    exact hret s0 (σ) _ _ _ _ _ _ dX8_takes_44 hp.1.1 hP hD hS (Nat.le_of_ble_eq_true rfl) (Nat.le_of_ble_eq_true rfl) hp.2
  refine lv_aload_n hx hb dX8_takes_0 rfl (lv_at hl 0 rfl) ?_
  refine lv_iload_n hx hb dX8_takes_1 rfl (lv_at hl 1 rfl) ?_
  refine lv_iload_n hx hb dX8_takes_2 rfl (lv_at hl 3 rfl) ?_
  refine fw_ciV (As := [.int p1, .int p3]) (rest := []) hC (c_X8_setOf l D k ad g hg hp) (cwV 2 hts (gA_V A_692 A_693 A_694 A_601 A_690) rfl rfl rfl (by decide +kernel) ⟨Nat.le_of_ble_eq_true rfl, Nat.le_of_ble_eq_true rfl⟩) (va_recv hK hP (ci := 12) (q0 := 0) rfl rfl) rfl hl.1 rfl (Nat.le_of_ble_eq_true rfl) dX8_takes_3 ⟨Nat.le_of_ble_eq_true rfl, Nat.le_of_ble_eq_true rfl⟩ hP hD hS Jn.same (fun r1 σ2 H locs hP hD hS hp => ?_)
  have hP : va_P D vwCl (WM k ad g (σ2)) H := hP
  have hD : va_D A (WM k ad g (σ2)) := hD
  refine lv_istore (lv' := [(4, .int r1), (0, .ref (ad 0)), (1, .int p1), (2, .ref (ad (100 + j))), (3, .int p3)]) hx hb dX8_takes_6 hl (by decide) rfl (fun ls hl => ?_)
  refine lv_aload_n hx hb dX8_takes_8 rfl (lv_at hl 1 rfl) ?_
  refine va_get (D := D) (ci := 12) (C := RX8) (T := TX8) (N := 15) hx hb hts hin_X8 hown hK hP 0 rfl rfl 9 (by decide) hf_32 (fun _ h9 => h9) rfl dX8_takes_9 ?_
  refine lv_iload_n hx hb dX8_takes_12 rfl (lv_at hl 2 rfl) ?_
  refine lv_iconst (v := 5) hx hb dX8_takes_13 (by decide) ?_
  refine lv_imul hx hb dX8_takes_14 ?_
  refine lv_iload_n hx hb dX8_takes_15 rfl (lv_at hl 4 rfl) ?_
  refine lv_iadd hx hb dX8_takes_16 ?_
  refine lv_topi (fun v3 ev3 => ?_)
  have hp := hp v3 ev3
  refine lv_dup2_11 hx hb dX8_takes_17 rfl rfl ?_
  obtain ⟨h4, hp⟩ := hp
  refine va_iald hx hb hK hP 7 0 rfl rfl h4 dX8_takes_18 ?_
  refine lv_aload_n hx hb dX8_takes_19 rfl (lv_at hl 1 rfl) ?_
  refine lv_iload_n hx hb dX8_takes_20 rfl (lv_at hl 2 rfl) ?_
  refine lv_aload_n hx hb dX8_takes_21 rfl (lv_at hl 3 rfl) ?_
  refine lv_iload_n hx hb dX8_takes_22 rfl (lv_at hl 4 rfl) ?_
  refine fw_ciV (As := [.int p1, .ref (ad (100 + j)), .int p3]) (rest := [.int ((σ2) 7 v3.toNatClampNeg), .int v3, .ref (ad 7)]) hC (c_X8_lets l D k ad g hg hj hp) (cwV 3 hts (gA_V A_707 A_708 A_709 A_601 A_703) rfl rfl rfl (by decide +kernel) ⟨Nat.le_of_ble_eq_true rfl, Nat.le_of_ble_eq_true rfl⟩) (va_recv hK hP (ci := 12) (q0 := 0) rfl rfl) rfl hl.1 rfl (Nat.le_of_ble_eq_true rfl) dX8_takes_23 ⟨Nat.le_of_ble_eq_true rfl, Nat.le_of_ble_eq_true rfl⟩ hP hD hS Jn.same (fun r5 σ6 H locs hP hD hS hp => ?_)
  have hP : va_P D vwCl (WM k ad g (σ6)) H := hP
  have hD : va_D A (WM k ad g (σ6)) := hD
  refine lv_iand hx hb dX8_takes_26 ?_
  obtain ⟨h7, hp⟩ := hp
  refine va_iast hx hb hK hP hD hS 7 0 rfl rfl h7 dX8_takes_27 (fun H locs hP hD hS => ?_)
  obtain ⟨σ8, eσ8⟩ : ∃ z : Mem, z = mst (σ6) 7 v3.toNatClampNeg (((σ2) 7 v3.toNatClampNeg) &&& r5) := ⟨_, rfl⟩
  have hp := hp σ8 eσ8
  have hP : va_P D vwCl (WM k ad g (σ8)) H := by rw [eσ8, WM_s (by decide)]; exact hP
  have hD : va_D A (WM k ad g (σ8)) := by rw [eσ8, WM_s (by decide)]; exact hD
  refine lv_aload_n hx hb dX8_takes_28 rfl (lv_at hl 1 rfl) ?_
  refine lv_iload_n hx hb dX8_takes_29 rfl (lv_at hl 2 rfl) ?_
  refine lv_iload_n hx hb dX8_takes_30 rfl (lv_at hl 4 rfl) ?_
  refine fw_ciV (As := [.int p1, .int p3]) (rest := []) hC (c_X8_setOf l D k ad g hg hp) (cwV 2 hts (gA_V A_692 A_693 A_694 A_601 A_690) rfl rfl rfl (by decide +kernel) ⟨Nat.le_of_ble_eq_true rfl, Nat.le_of_ble_eq_true rfl⟩) (va_recv hK hP (ci := 12) (q0 := 0) rfl rfl) rfl hl.1 rfl (Nat.le_of_ble_eq_true rfl) dX8_takes_31 ⟨Nat.le_of_ble_eq_true rfl, Nat.le_of_ble_eq_true rfl⟩ hP hD hS Jn.same (fun r9 σ10 H locs hP hD hS hp => ?_)
  have hP : va_P D vwCl (WM k ad g (σ10)) H := hP
  have hD : va_D A (WM k ad g (σ10)) := hD
  refine lv_iload hx hb dX8_takes_34 (lv_at hl 0 rfl) ?_
  refine lv_icmp_eq (tgt := 43) hx hb dX8_takes_36 (by decide) (fun c11 => ?_) (fun c11 => ?_)
  · have hp := hp.1 c11
    refine lv_iconst (v := 0) hx hb dX8_takes_43 (by decide) ?_
    exact B_44 0 (σ10) _ _ _  hP hD hS (lv_sub hl [] rfl) hp
  · have hp := hp.2 c11
    refine lv_iconst (v := 1) hx hb dX8_takes_39 (by decide) ?_
    refine lv_goto (tgt := 44) hx hb dX8_takes_40 (by decide) ?_
    exact B_44 1 (σ10) _ _ _  hP hD hS (lv_sub hl [] rfl) hp
