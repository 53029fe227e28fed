def q_X5_isField_20  (post : Int32 → Mem → Prop)  (s0 : Int32) (σ : Mem) : Prop := (bz s0 ∧ post s0 (σ))
def q_X5_isField_19  (post : Int32 → Mem → Prop)  (σ : Mem) : Prop := (q_X5_isField_20 post) 0 (σ)
def q_X5_isField  (post : Int32 → Mem → Prop) (p1 : Int32) (σ : Mem) : Prop := ((p1 < 0 → (q_X5_isField_19 post) (σ)) ∧ (¬ (p1 < 0) → ((((σ) 1 9) ≤ p1 → (q_X5_isField_19 post) (σ)) ∧ (¬ (((σ) 1 9) ≤ p1) → (q_X5_isField_20 post) 1 (σ)))))
abbrev rm_X5_isField : Room := { frames := 0, cells := 0, slots := 0, locals := 0 }
abbrev wq_X5_isField : List Cond := Cond.code yX5_isField cX5_isField 2 (some .boolean) :: wALL
set_option maxHeartbeats 4000000 in
set_option maxRecDepth 100000 in
theorem c_X5_isField (l : Launch) (D : va_G) (k ad : Nat → Nat) {sz : Nat} {σ : Mem} {p1 : Int32} {post : Int32 → Mem → Prop} (hp : q_X5_isField post p1 σ) : Met l yX5_isField wq_X5_isField rm_X5_isField (va_Pc [.ref (ad 0), .int p1] (Pw D k (W5 k ad (σ)) sz)) (va_Qi post (fun u => Bw D (W5 k ad (σ)) sz (W5 k ad u)) (va_A (W5 k ad (σ)) sz)) 0 0 (va_A (W5 k ad (σ)) sz) := by
  refine fw_i (wf := fun u : Mem => W5 k ad u) (by decide) rfl (Nat.le_of_ble_eq_true rfl) ?_
  intro p e s m args below meth c A Q ls hC hP hD hl hret
  obtain ⟨⟨hx, hb, hml, hown, hts⟩, hG, hA⟩ := id hC
  have hK := hG.1
  have hS : va_S A s.heap s.heap [] := va_S.rf
  have hin_X5 : ∀ w ∈ u_ws RX5 TX5 4, w ∈ wq_X5_isField := fun w h => List.mem_cons_of_mem _ (iU_X5 w h)
  have hf_10 := hts _ (List.mem_cons_of_mem _ A_183)
  have hin_X2 : ∀ w ∈ u_ws RX2 TX2 11, w ∈ wq_X5_isField := fun w h => List.mem_cons_of_mem _ (iU_X2 w h)
  have hf_47 := hts _ (List.mem_cons_of_mem _ A_202)
  have hl : lv_has ls 2 [(0, .ref (ad 0)), (1, .int p1)] := hl
  have hown : s.vm.findClass RX5 = some m.cls := hown
  unfold q_X5_isField at hp
  have B_20 : ∀ (s0 : Int32) (σ : Mem) (H : Heap) (locs : List Loc) (ls : Array Slot), va_P D vwCl (W5 k ad (σ)) H → va_D A (W5 k ad (σ)) → va_S A s.heap H locs → lv_has ls 2 [] → (q_X5_isField_20 post) s0 σ → W p l e rm_X5_isField s m args below meth c H locs 0 0 Q (F0 m 20 ls [.int s0]) := by
    intro s0 σ H locs ls hP hD hS hl hp
    unfold q_X5_isField_20 at hp
    exact hret s0 (σ) _ _ _ _ _ _ dX5_isField_20 hp.1.1 hP hD hS (Nat.le_of_ble_eq_true rfl) (Nat.le_of_ble_eq_true rfl) hp.2
  have B_19 : ∀  (σ : Mem) (H : Heap) (locs : List Loc) (ls : Array Slot), va_P D vwCl (W5 k ad (σ)) H → va_D A (W5 k ad (σ)) → va_S A s.heap H locs → lv_has ls 2 [] → (q_X5_isField_19 post)  σ → W p l e rm_X5_isField s m args below meth c H locs 0 0 Q (F0 m 19 ls []) := by
    intro  σ H locs ls hP hD hS hl hp
    unfold q_X5_isField_19 at hp
    refine lv_iconst (v := 0) hx hb dX5_isField_19 (by decide) ?_
    exact B_20 0 (σ) _ _ _  hP hD hS (lv_sub hl [] rfl) hp
  refine lv_iload_n hx hb dX5_isField_0 rfl (lv_at hl 1 rfl) ?_
  refine lv_if_lt (tgt := 19) hx hb dX5_isField_1 (by decide) (fun c1 => ?_) (fun c1 => ?_)
  · have hp := hp.1 c1
    exact B_19  (σ) _ _ _  hP hD hS (lv_sub hl [] rfl) hp
  · have hp := hp.2 c1
    refine lv_iload_n hx hb dX5_isField_4 rfl (lv_at hl 1 rfl) ?_
    refine lv_aload_n hx hb dX5_isField_5 rfl (lv_at hl 0 rfl) ?_
    refine va_get (D := D) (ci := 9) (C := RX5) (T := TX5) (N := 4) hx hb hts hin_X5 hown hK hP 0 rfl rfl 0 (by decide) hf_10 (fun _ h9 => h9) rfl dX5_isField_6 ?_
    refine va_get (D := D) (ci := 6) (C := RX2) (T := TX2) (N := 11) hx hb hts hin_X2 hown hK hP 1 rfl rfl 9 (by decide) hf_47 (fun _ h9 => h9) rfl dX5_isField_9 ?_
    refine lv_icmp_ge (tgt := 19) hx hb dX5_isField_12 (by decide) (fun c2 => ?_) (fun c2 => ?_)
    · have hp := hp.1 c2
      exact B_19  (σ) _ _ _  hP hD hS (lv_sub hl [] rfl) hp
    · have hp := hp.2 c2
      refine lv_iconst (v := 1) hx hb dX5_isField_15 (by decide) ?_
      refine lv_goto (tgt := 20) hx hb dX5_isField_16 (by decide) ?_
      exact B_20 1 (σ) _ _ _  hP hD hS (lv_sub hl [] rfl) hp
def q_X5_isLine_20  (post : Int32 → Mem → Prop)  (s0 : Int32) (σ : Mem) : Prop := (bz s0 ∧ post s0 (σ))
def q_X5_isLine_19  (post : Int32 → Mem → Prop)  (σ : Mem) : Prop := (q_X5_isLine_20 post) 0 (σ)
def q_X5_isLine  (post : Int32 → Mem → Prop) (p1 : Int32) (σ : Mem) : Prop := ((p1 < 0 → (q_X5_isLine_19 post) (σ)) ∧ (¬ (p1 < 0) → ((((σ) 1 10) ≤ p1 → (q_X5_isLine_19 post) (σ)) ∧ (¬ (((σ) 1 10) ≤ p1) → (q_X5_isLine_20 post) 1 (σ)))))
abbrev rm_X5_isLine : Room := { frames := 0, cells := 0, slots := 0, locals := 0 }
abbrev wq_X5_isLine : List Cond := Cond.code yX5_isLine cX5_isLine 2 (some .boolean) :: wALL
set_option maxHeartbeats 4000000 in
set_option maxRecDepth 100000 in
theorem c_X5_isLine (l : Launch) (D : va_G) (k ad : Nat → Nat) {sz : Nat} {σ : Mem} {p1 : Int32} {post : Int32 → Mem → Prop} (hp : q_X5_isLine post p1 σ) : Met l yX5_isLine wq_X5_isLine rm_X5_isLine (va_Pc [.ref (ad 0), .int p1] (Pw D k (W5 k ad (σ)) sz)) (va_Qi post (fun u => Bw D (W5 k ad (σ)) sz (W5 k ad u)) (va_A (W5 k ad (σ)) sz)) 0 0 (va_A (W5 k ad (σ)) sz) := by
  refine fw_i (wf := fun u : Mem => W5 k ad u) (by decide) rfl (Nat.le_of_ble_eq_true rfl) ?_
  intro p e s m args below meth c A Q ls hC hP hD hl hret
  obtain ⟨⟨hx, hb, hml, hown, hts⟩, hG, hA⟩ := id hC
  have hK := hG.1
  have hS : va_S A s.heap s.heap [] := va_S.rf
  have hin_X5 : ∀ w ∈ u_ws RX5 TX5 4, w ∈ wq_X5_isLine := fun w h => List.mem_cons_of_mem _ (iU_X5 w h)
  have hf_10 := hts _ (List.mem_cons_of_mem _ A_183)
  have hin_X2 : ∀ w ∈ u_ws RX2 TX2 11, w ∈ wq_X5_isLine := fun w h => List.mem_cons_of_mem _ (iU_X2 w h)
  have hf_72 := hts _ (List.mem_cons_of_mem _ A_219)
  have hl : lv_has ls 2 [(0, .ref (ad 0)), (1, .int p1)] := hl
  have hown : s.vm.findClass RX5 = some m.cls := hown
  unfold q_X5_isLine at hp
  have B_20 : ∀ (s0 : Int32) (σ : Mem) (H : Heap) (locs : List Loc) (ls : Array Slot), va_P D vwCl (W5 k ad (σ)) H → va_D A (W5 k ad (σ)) → va_S A s.heap H locs → lv_has ls 2 [] → (q_X5_isLine_20 post) s0 σ → W p l e rm_X5_isLine s m args below meth c H locs 0 0 Q (F0 m 20 ls [.int s0]) := by
    intro s0 σ H locs ls hP hD hS hl hp
    unfold q_X5_isLine_20 at hp
    exact hret s0 (σ) _ _ _ _ _ _ dX5_isLine_20 hp.1.1 hP hD hS (Nat.le_of_ble_eq_true rfl) (Nat.le_of_ble_eq_true rfl) hp.2
  have B_19 : ∀  (σ : Mem) (H : Heap) (locs : List Loc) (ls : Array Slot), va_P D vwCl (W5 k ad (σ)) H → va_D A (W5 k ad (σ)) → va_S A s.heap H locs → lv_has ls 2 [] → (q_X5_isLine_19 post)  σ → W p l e rm_X5_isLine s m args below meth c H locs 0 0 Q (F0 m 19 ls []) := by
    intro  σ H locs ls hP hD hS hl hp
    unfold q_X5_isLine_19 at hp
    refine lv_iconst (v := 0) hx hb dX5_isLine_19 (by decide) ?_
    exact B_20 0 (σ) _ _ _  hP hD hS (lv_sub hl [] rfl) hp
  refine lv_iload_n hx hb dX5_isLine_0 rfl (lv_at hl 1 rfl) ?_
  refine lv_if_lt (tgt := 19) hx hb dX5_isLine_1 (by decide) (fun c1 => ?_) (fun c1 => ?_)
  · have hp := hp.1 c1
    exact B_19  (σ) _ _ _  hP hD hS (lv_sub hl [] rfl) hp
  · have hp := hp.2 c1
    refine lv_iload_n hx hb dX5_isLine_4 rfl (lv_at hl 1 rfl) ?_
    refine lv_aload_n hx hb dX5_isLine_5 rfl (lv_at hl 0 rfl) ?_
    refine va_get (D := D) (ci := 9) (C := RX5) (T := TX5) (N := 4) hx hb hts hin_X5 hown hK hP 0 rfl rfl 0 (by decide) hf_10 (fun _ h9 => h9) rfl dX5_isLine_6 ?_
    refine va_get (D := D) (ci := 6) (C := RX2) (T := TX2) (N := 11) hx hb hts hin_X2 hown hK hP 1 rfl rfl 10 (by decide) hf_72 (fun _ h9 => h9) rfl dX5_isLine_9 ?_
    refine lv_icmp_ge (tgt := 19) hx hb dX5_isLine_12 (by decide) (fun c2 => ?_) (fun c2 => ?_)
    · have hp := hp.1 c2
      exact B_19  (σ) _ _ _  hP hD hS (lv_sub hl [] rfl) hp
    · have hp := hp.2 c2
      refine lv_iconst (v := 1) hx hb dX5_isLine_15 (by decide) ?_
      refine lv_goto (tgt := 20) hx hb dX5_isLine_16 (by decide) ?_
      exact B_20 1 (σ) _ _ _  hP hD hS (lv_sub hl [] rfl) hp
def q_X5_isCommit_20  (post : Int32 → Mem → Prop)  (s0 : Int32) (σ : Mem) : Prop := (bz s0 ∧ post s0 (σ))
def q_X5_isCommit_19  (post : Int32 → Mem → Prop)  (σ : Mem) : Prop := (q_X5_isCommit_20 post) 0 (σ)
def q_X5_isCommit  (post : Int32 → Mem → Prop) (p1 : Int32) (σ : Mem) : Prop := ((p1 < 0 → (q_X5_isCommit_19 post) (σ)) ∧ (¬ (p1 < 0) → ((((σ) 23 3) ≤ p1 → (q_X5_isCommit_19 post) (σ)) ∧ (¬ (((σ) 23 3) ≤ p1) → (q_X5_isCommit_20 post) 1 (σ)))))
abbrev rm_X5_isCommit : Room := { frames := 0, cells := 0, slots := 0, locals := 0 }
abbrev wq_X5_isCommit : List Cond := Cond.code yX5_isCommit cX5_isCommit 2 (some .boolean) :: wALL
set_option maxHeartbeats 4000000 in
set_option maxRecDepth 100000 in
theorem c_X5_isCommit (l : Launch) (D : va_G) (k ad : Nat → Nat) {sz : Nat} {σ : Mem} {p1 : Int32} {post : Int32 → Mem → Prop} (hp : q_X5_isCommit post p1 σ) : Met l yX5_isCommit wq_X5_isCommit rm_X5_isCommit (va_Pc [.ref (ad 0), .int p1] (Pw D k (W5 k ad (σ)) sz)) (va_Qi post (fun u => Bw D (W5 k ad (σ)) sz (W5 k ad u)) (va_A (W5 k ad (σ)) sz)) 0 0 (va_A (W5 k ad (σ)) sz) := by
  refine fw_i (wf := fun u : Mem => W5 k ad u) (by decide) rfl (Nat.le_of_ble_eq_true rfl) ?_
  intro p e s m args below meth c A Q ls hC hP hD hl hret
  obtain ⟨⟨hx, hb, hml, hown, hts⟩, hG, hA⟩ := id hC
  have hK := hG.1
  have hS : va_S A s.heap s.heap [] := va_S.rf
  have hin_X5 : ∀ w ∈ u_ws RX5 TX5 4, w ∈ wq_X5_isCommit := fun w h => List.mem_cons_of_mem _ (iU_X5 w h)
  have hf_28 := hts _ (List.mem_cons_of_mem _ A_189)
  have hin_X1 : ∀ w ∈ u_ws RX1 TX1 4, w ∈ wq_X5_isCommit := fun w h => List.mem_cons_of_mem _ (iU_X1 w h)
  have hf_123 := hts _ (List.mem_cons_of_mem _ A_248)
  have hl : lv_has ls 2 [(0, .ref (ad 0)), (1, .int p1)] := hl
  have hown : s.vm.findClass RX5 = some m.cls := hown
  unfold q_X5_isCommit at hp
  have B_20 : ∀ (s0 : Int32) (σ : Mem) (H : Heap) (locs : List Loc) (ls : Array Slot), va_P D vwCl (W5 k ad (σ)) H → va_D A (W5 k ad (σ)) → va_S A s.heap H locs → lv_has ls 2 [] → (q_X5_isCommit_20 post) s0 σ → W p l e rm_X5_isCommit s m args below meth c H locs 0 0 Q (F0 m 20 ls [.int s0]) := by
    intro s0 σ H locs ls hP hD hS hl hp
    unfold q_X5_isCommit_20 at hp
    exact hret s0 (σ) _ _ _ _ _ _ dX5_isCommit_20 hp.1.1 hP hD hS (Nat.le_of_ble_eq_true rfl) (Nat.le_of_ble_eq_true rfl) hp.2
  have B_19 : ∀  (σ : Mem) (H : Heap) (locs : List Loc) (ls : Array Slot), va_P D vwCl (W5 k ad (σ)) H → va_D A (W5 k ad (σ)) → va_S A s.heap H locs → lv_has ls 2 [] → (q_X5_isCommit_19 post)  σ → W p l e rm_X5_isCommit s m args below meth c H locs 0 0 Q (F0 m 19 ls []) := by
    intro  σ H locs ls hP hD hS hl hp
    unfold q_X5_isCommit_19 at hp
    refine lv_iconst (v := 0) hx hb dX5_isCommit_19 (by decide) ?_
    exact B_20 0 (σ) _ _ _  hP hD hS (lv_sub hl [] rfl) hp
  refine lv_iload_n hx hb dX5_isCommit_0 rfl (lv_at hl 1 rfl) ?_
  refine lv_if_lt (tgt := 19) hx hb dX5_isCommit_1 (by decide) (fun c1 => ?_) (fun c1 => ?_)
  · have hp := hp.1 c1
    exact B_19  (σ) _ _ _  hP hD hS (lv_sub hl [] rfl) hp
  · have hp := hp.2 c1
    refine lv_iload_n hx hb dX5_isCommit_4 rfl (lv_at hl 1 rfl) ?_
    refine lv_aload_n hx hb dX5_isCommit_5 rfl (lv_at hl 0 rfl) ?_
    refine va_get (D := D) (ci := 9) (C := RX5) (T := TX5) (N := 4) hx hb hts hin_X5 hown hK hP 0 rfl rfl 2 (by decide) hf_28 (fun _ h9 => h9) rfl dX5_isCommit_6 ?_
    refine va_get (D := D) (ci := 5) (C := RX1) (T := TX1) (N := 4) hx hb hts hin_X1 hown hK hP 23 rfl rfl 3 (by decide) hf_123 (fun _ h9 => h9) rfl dX5_isCommit_9 ?_
    refine lv_icmp_ge (tgt := 19) hx hb dX5_isCommit_12 (by decide) (fun c2 => ?_) (fun c2 => ?_)
    · have hp := hp.1 c2
      exact B_19  (σ) _ _ _  hP hD hS (lv_sub hl [] rfl) hp
    · have hp := hp.2 c2
      refine lv_iconst (v := 1) hx hb dX5_isCommit_15 (by decide) ?_
      refine lv_goto (tgt := 20) hx hb dX5_isCommit_16 (by decide) ?_
      exact B_20 1 (σ) _ _ _  hP hD hS (lv_sub hl [] rfl) hp
def q_X5_knock  (post : Int32 → Mem → Prop) (σ : Mem) : Prop := (∀ σ1 : Mem, σ1 = mst (σ) 0 3 (((σ) 0 3) + 1) → post ((σ1) 0 3) (σ1))
abbrev rm_X5_knock : Room := { frames := 0, cells := 0, slots := 0, locals := 0 }
abbrev wq_X5_knock : List Cond := Cond.code yX5_knock cX5_knock 1 (some .int) :: wALL
set_option maxHeartbeats 4000000 in
set_option maxRecDepth 100000 in
theorem c_X5_knock (l : Launch) (D : va_G) (k ad : Nat → Nat) {sz : Nat} {σ : Mem} {post : Int32 → Mem → Prop} (hp : q_X5_knock post σ) : Met l yX5_knock wq_X5_knock rm_X5_knock (va_Pc [.ref (ad 0)] (Pw D k (W5 k ad (σ)) sz)) (va_Qi post (fun u => Bw D (W5 k ad (σ)) sz (W5 k ad u)) (va_A (W5 k ad (σ)) sz)) 0 0 (va_A (W5 k ad (σ)) sz) := by
  refine fw_i (wf := fun u : Mem => W5 k ad u) (by decide) rfl (Nat.le_of_ble_eq_true rfl) ?_
  intro p e s m args below meth c A Q ls hC hP hD hl hret
  obtain ⟨⟨hx, hb, hml, hown, hts⟩, hG, hA⟩ := id hC
  have hK := hG.1
  have hS : va_S A s.heap s.heap [] := va_S.rf
  have hin_X5 : ∀ w ∈ u_ws RX5 TX5 4, w ∈ wq_X5_knock := fun w h => List.mem_cons_of_mem _ (iU_X5 w h)
  have hf_32 := hts _ (List.mem_cons_of_mem _ A_190)
  have hl : lv_has ls 1 [(0, .ref (ad 0))] := hl
  have hown : s.vm.findClass RX5 = some m.cls := hown
  unfold q_X5_knock at hp
  refine lv_aload_n hx hb dX5_knock_0 rfl (lv_at hl 0 rfl) ?_
  refine lv_dup hx hb dX5_knock_1 rfl ?_
  refine va_get (D := D) (ci := 9) (C := RX5) (T := TX5) (N := 4) hx hb hts hin_X5 hown hK hP 0 rfl rfl 3 (by decide) hf_32 (fun _ h9 => h9) rfl dX5_knock_2 ?_
  refine lv_iconst (v := 1) hx hb dX5_knock_5 (by decide) ?_
  refine lv_iadd hx hb dX5_knock_6 ?_
  refine va_put (D := D) (ci := 9) (v := .int (((σ) 0 3) + 1)) (ty := .int) (C := RX5) (T := TX5) (N := 4) hx hb hts hin_X5 tyX5 tyX5_ok nmX5 hown hK hP hD hS 0 rfl rfl 3 (by decide) hf_32 (fun _ h9 => h9) rfl (by decide +kernel) rfl rfl (Nat.le_of_ble_eq_true rfl) dX5_knock_7 (fun H locs hP hD hS => ?_)
  obtain ⟨σ1, eσ1⟩ : ∃ z : Mem, z = mst (σ) 0 3 (((σ) 0 3) + 1) := ⟨_, rfl⟩
  have hp := hp σ1 eσ1
  have hP : va_P D vwCl (W5 k ad (σ1)) H := by rw [eσ1]; exact hP
  have hD : va_D A (W5 k ad (σ1)) := by rw [eσ1]; exact hD
  refine lv_aload_n hx hb dX5_knock_10 rfl (lv_at hl 0 rfl) ?_
  refine va_get (D := D) (ci := 9) (C := RX5) (T := TX5) (N := 4) hx hb hts hin_X5 hown hK hP 0 rfl rfl 3 (by decide) hf_32 (fun _ h9 => h9) rfl dX5_knock_11 ?_
  exact hret ((σ1) 0 3) (σ1) _ _ _ _ _ _ dX5_knock_14 rfl hP hD hS (Nat.le_of_ble_eq_true rfl) (Nat.le_of_ble_eq_true rfl) hp
def q_X5_tell  (post : Int32 → Mem → Prop) (p1 : Int32) (p2 : Int32) (p3 : Int32) (p4 : Int32) (p5 : Int32) (σ : Mem) : Prop := (q_X2_makeLine (fun (r1 : Int32) (σ2 : Mem) => (q_X4_renew (fun (σ4 : Mem) => post r1 (σ4)) (σ2))) p1 p2 p3 p4 p5 (σ))
abbrev rm_X5_tell : Room := { frames := 19, cells := 0, slots := 0, locals := 907 }
abbrev wq_X5_tell : List Cond := Cond.code yX5_tell cX5_tell 7 (some .int) :: wALL
set_option maxHeartbeats 4000000 in
set_option maxRecDepth 100000 in
theorem c_X5_tell (l : Launch) (D : va_G) (k ad : Nat → Nat) {sz : Nat} {σ : Mem} {p1 : Int32} {p2 : Int32} {p3 : Int32} {p4 : Int32} {p5 : Int32} {post : Int32 → Mem → Prop} (hp : q_X5_tell post p1 p2 p3 p4 p5 σ) : Met l yX5_tell wq_X5_tell rm_X5_tell (va_Pc [.ref (ad 0), .int p1, .int p2, .int p3, .int p4, .int p5] (Pw D k (W5 k ad (σ)) sz)) (va_Qi post (fun u => Bw D (W5 k ad (σ)) sz (W5 k ad u)) (va_A (W5 k ad (σ)) sz)) 0 0 (va_A (W5 k ad (σ)) sz) := by
  refine fw_i (wf := fun u : Mem => W5 k ad u) (by decide) rfl (Nat.le_of_ble_eq_true rfl) ?_
  intro p e s m args below meth c A Q ls hC hP hD hl hret
  obtain ⟨⟨hx, hb, hml, hown, hts⟩, hG, hA⟩ := id hC
  have hK := hG.1
  have hS : va_S A s.heap s.heap [] := va_S.rf
  have hin_X5 : ∀ w ∈ u_ws RX5 TX5 4, w ∈ wq_X5_tell := fun w h => List.mem_cons_of_mem _ (iU_X5 w h)
  have hf_10 := hts _ (List.mem_cons_of_mem _ A_183)
  have hf_21 := hts _ (List.mem_cons_of_mem _ A_186)
  have hl : lv_has ls 7 [(0, .ref (ad 0)), (1, .int p1), (2, .int p2), (3, .int p3), (4, .int p4), (5, .int p5)] := hl
  have hown : s.vm.findClass RX5 = some m.cls := hown
  unfold q_X5_tell at hp
  refine lv_aload_n hx hb dX5_tell_0 rfl (lv_at hl 0 rfl) ?_
  refine va_get (D := D) (ci := 9) (C := RX5) (T := TX5) (N := 4) hx hb hts hin_X5 hown hK hP 0 rfl rfl 0 (by decide) hf_10 (fun _ h9 => h9) rfl dX5_tell_1 ?_
  refine lv_iload_n hx hb dX5_tell_4 rfl (lv_at hl 1 rfl) ?_
  refine lv_iload_n hx hb dX5_tell_5 rfl (lv_at hl 2 rfl) ?_
  refine lv_iload_n hx hb dX5_tell_6 rfl (lv_at hl 3 rfl) ?_
  refine lv_iload hx hb dX5_tell_7 (lv_at hl 4 rfl) ?_
  refine lv_iload hx hb dX5_tell_9 (lv_at hl 5 rfl) ?_
  refine fw_ciV (As := [.int p1, .int p2, .int p3, .int p4, .int p5]) (rest := []) hC (c_X2_makeLine l D k ad hp) (cwV 5 hts (gA_V A_213 A_214 A_215 A_29 A_87) rfl rfl rfl (by decide +kernel) ⟨Nat.le_of_ble_eq_true rfl, Nat.le_of_ble_eq_true rfl⟩) (va_recv hK hP (ci := 6) (q0 := 1) rfl rfl) rfl hl.1 rfl (Nat.le_of_ble_eq_true rfl) dX5_tell_11 ⟨Nat.le_of_ble_eq_true rfl, Nat.le_of_ble_eq_true rfl⟩ hP hD hS Jn.same (fun r1 σ2 H locs hP hD hS hp => ?_)
  have hP : va_P D vwCl (W5 k ad (σ2)) H := hP
  have hD : va_D A (W5 k ad (σ2)) := hD
  refine lv_istore (lv' := [(6, .int r1), (0, .ref (ad 0)), (1, .int p1), (2, .int p2), (3, .int p3), (4, .int p4), (5, .int p5)]) hx hb dX5_tell_14 hl (by decide) rfl (fun ls hl => ?_)
  refine lv_aload_n hx hb dX5_tell_16 rfl (lv_at hl 1 rfl) ?_
  refine va_get (D := D) (ci := 9) (C := RX5) (T := TX5) (N := 4) hx hb hts hin_X5 hown hK hP 0 rfl rfl 1 (by decide) hf_21 (fun _ h9 => h9) rfl dX5_tell_17 ?_
  refine fw_cvV (As := []) (rest := []) hC (c_X4_renew l D k ad hp) (cwV 0 hts (gA_V A_208 A_209 A_210 A_173 A_176) rfl rfl rfl (by decide +kernel) ⟨Nat.le_of_ble_eq_true rfl, Nat.le_of_ble_eq_true rfl⟩) (va_recv hK hP (ci := 8) (q0 := 11) rfl rfl) rfl hl.1 rfl (Nat.le_of_ble_eq_true rfl) dX5_tell_20 ⟨Nat.le_of_ble_eq_true rfl, Nat.le_of_ble_eq_true rfl⟩ hP hD hS Jn.same (fun σ4 H locs hP hD hS hp => ?_)
  have hP : va_P D vwCl (W5 k ad (σ4)) H := hP
  have hD : va_D A (W5 k ad (σ4)) := hD
  refine lv_iload hx hb dX5_tell_23 (lv_at hl 0 rfl) ?_
  exact hret r1 (σ4) _ _ _ _ _ _ dX5_tell_25 rfl hP hD hS (Nat.le_of_ble_eq_true rfl) (Nat.le_of_ble_eq_true rfl) hp
