def q_J6_bitCount_0f7a4  (post : Int32 → Mem → Prop) (p1 : Int32) (σ : Mem) : Prop := (∀ v1 : Int32, v1 = (p1 - (((p1.toUInt32 >>> ((1 : Int32).toUInt32 &&& Int32.toUInt32 31)).toInt32) &&& 1431655765)) → (∀ v2 : Int32, v2 = ((v1 &&& 858993459) + (((v1.toUInt32 >>> ((2 : Int32).toUInt32 &&& Int32.toUInt32 31)).toInt32) &&& 858993459)) → (∀ v3 : Int32, v3 = ((v2 + ((v2.toUInt32 >>> ((4 : Int32).toUInt32 &&& Int32.toUInt32 31)).toInt32)) &&& 252645135) → (∀ v4 : Int32, v4 = (v3 + ((v3.toUInt32 >>> ((8 : Int32).toUInt32 &&& Int32.toUInt32 31)).toInt32)) → (∀ v5 : Int32, v5 = (v4 + ((v4.toUInt32 >>> ((16 : Int32).toUInt32 &&& Int32.toUInt32 31)).toInt32)) → post (v5 &&& 63) (σ))))))
abbrev rm_J6_bitCount_0f7a4 : Room := { frames := 0, cells := 0, slots := 0, locals := 0 }
abbrev wq_J6_bitCount_0f7a4 : List Cond := Cond.code yJ6_bitCount_0f7a4 cJ6_bitCount_0f7a4 1 (some .int) :: wALL
set_option maxHeartbeats 4000000 in
set_option maxRecDepth 100000 in
theorem c_J6_bitCount_0f7a4 (l : Launch) (D : va_G) (k : Nat → Nat) {sz : Nat} {σ : Mem} {p1 : Int32} {post : Int32 → Mem → Prop} (hp : q_J6_bitCount_0f7a4 post p1 σ) : Met l yJ6_bitCount_0f7a4 wq_J6_bitCount_0f7a4 rm_J6_bitCount_0f7a4 (va_Pc [.int p1] (Pw D k ([]) sz)) (va_Qi post (fun u => Bw D ([]) sz ([])) (va_A [] sz)) 0 0 (va_A [] sz) := by
  refine fw_i (wf := fun u : Mem => []) (by decide) rfl (Nat.le_of_ble_eq_true rfl) ?_
  intro p e s m args below meth c A Q ls hC hP hD hl hret
  obtain ⟨⟨hx, hb, hml, hown, hts⟩, hG, hA⟩ := id hC
  have hK := hG.1
  have hS : va_S A s.heap s.heap [] := va_S.rf
  have hl : lv_has ls 1 [(0, .int p1)] := hl
  have hown : s.vm.findClass RJ6 = some m.cls := hown
  unfold q_J6_bitCount_0f7a4 at hp
  refine lv_iload_n hx hb dJ6_bitCount_0f7a4_0 rfl (lv_at hl 0 rfl) ?_
  refine lv_iload_n hx hb dJ6_bitCount_0f7a4_1 rfl (lv_at hl 0 rfl) ?_
  refine lv_iconst (v := 1) hx hb dJ6_bitCount_0f7a4_2 (by decide) ?_
  refine lv_iushr (v := (p1.toUInt32 >>> ((1 : Int32).toUInt32 &&& Int32.toUInt32 31)).toInt32) hx hb dJ6_bitCount_0f7a4_3 rfl ?_
  refine lv_ldcw (v := 1431655765) hx hb hown (hts _ (List.mem_cons_of_mem _ A_142)) dJ6_bitCount_0f7a4_4 ?_
  refine lv_iand hx hb dJ6_bitCount_0f7a4_7 ?_
  refine lv_isub hx hb dJ6_bitCount_0f7a4_8 ?_
  refine lv_topi (fun v1 ev1 => ?_)
  have hp := hp v1 ev1
  refine lv_istore_n (lv' := [(0, .int v1)]) hx hb dJ6_bitCount_0f7a4_9 rfl hl (by decide) rfl (fun ls hl => ?_)
  refine lv_iload_n hx hb dJ6_bitCount_0f7a4_10 rfl (lv_at hl 0 rfl) ?_
  refine lv_ldcw (v := 858993459) hx hb hown (hts _ (List.mem_cons_of_mem _ A_143)) dJ6_bitCount_0f7a4_11 ?_
  refine lv_iand hx hb dJ6_bitCount_0f7a4_14 ?_
  refine lv_iload_n hx hb dJ6_bitCount_0f7a4_15 rfl (lv_at hl 0 rfl) ?_
  refine lv_iconst (v := 2) hx hb dJ6_bitCount_0f7a4_16 (by decide) ?_
  refine lv_iushr (v := (v1.toUInt32 >>> ((2 : Int32).toUInt32 &&& Int32.toUInt32 31)).toInt32) hx hb dJ6_bitCount_0f7a4_17 rfl ?_
  refine lv_ldcw (v := 858993459) hx hb hown (hts _ (List.mem_cons_of_mem _ A_143)) dJ6_bitCount_0f7a4_18 ?_
  refine lv_iand hx hb dJ6_bitCount_0f7a4_21 ?_
  refine lv_iadd hx hb dJ6_bitCount_0f7a4_22 ?_
  refine lv_topi (fun v2 ev2 => ?_)
  have hp := hp v2 ev2
  refine lv_istore_n (lv' := [(0, .int v2)]) hx hb dJ6_bitCount_0f7a4_23 rfl hl (by decide) rfl (fun ls hl => ?_)
  refine lv_iload_n hx hb dJ6_bitCount_0f7a4_24 rfl (lv_at hl 0 rfl) ?_
  refine lv_iload_n hx hb dJ6_bitCount_0f7a4_25 rfl (lv_at hl 0 rfl) ?_
  refine lv_iconst (v := 4) hx hb dJ6_bitCount_0f7a4_26 (by decide) ?_
  refine lv_iushr (v := (v2.toUInt32 >>> ((4 : Int32).toUInt32 &&& Int32.toUInt32 31)).toInt32) hx hb dJ6_bitCount_0f7a4_27 rfl ?_
  refine lv_iadd hx hb dJ6_bitCount_0f7a4_28 ?_
  refine lv_ldcw (v := 252645135) hx hb hown (hts _ (List.mem_cons_of_mem _ A_144)) dJ6_bitCount_0f7a4_29 ?_
  refine lv_iand hx hb dJ6_bitCount_0f7a4_32 ?_
  refine lv_topi (fun v3 ev3 => ?_)
  have hp := hp v3 ev3
  refine lv_istore_n (lv' := [(0, .int v3)]) hx hb dJ6_bitCount_0f7a4_33 rfl hl (by decide) rfl (fun ls hl => ?_)
  refine lv_iload_n hx hb dJ6_bitCount_0f7a4_34 rfl (lv_at hl 0 rfl) ?_
  refine lv_iload_n hx hb dJ6_bitCount_0f7a4_35 rfl (lv_at hl 0 rfl) ?_
  refine lv_bipush (v := 8) hx hb dJ6_bitCount_0f7a4_36 (by decide) ?_
  refine lv_iushr (v := (v3.toUInt32 >>> ((8 : Int32).toUInt32 &&& Int32.toUInt32 31)).toInt32) hx hb dJ6_bitCount_0f7a4_38 rfl ?_
  refine lv_iadd hx hb dJ6_bitCount_0f7a4_39 ?_
  refine lv_topi (fun v4 ev4 => ?_)
  have hp := hp v4 ev4
  refine lv_istore_n (lv' := [(0, .int v4)]) hx hb dJ6_bitCount_0f7a4_40 rfl hl (by decide) rfl (fun ls hl => ?_)
  refine lv_iload_n hx hb dJ6_bitCount_0f7a4_41 rfl (lv_at hl 0 rfl) ?_
  refine lv_iload_n hx hb dJ6_bitCount_0f7a4_42 rfl (lv_at hl 0 rfl) ?_
  refine lv_bipush (v := 16) hx hb dJ6_bitCount_0f7a4_43 (by decide) ?_
  refine lv_iushr (v := (v4.toUInt32 >>> ((16 : Int32).toUInt32 &&& Int32.toUInt32 31)).toInt32) hx hb dJ6_bitCount_0f7a4_45 rfl ?_
  refine lv_iadd hx hb dJ6_bitCount_0f7a4_46 ?_
  refine lv_topi (fun v5 ev5 => ?_)
  have hp := hp v5 ev5
  refine lv_istore_n (lv' := [(0, .int v5)]) hx hb dJ6_bitCount_0f7a4_47 rfl hl (by decide) rfl (fun ls hl => ?_)
  refine lv_iload_n hx hb dJ6_bitCount_0f7a4_48 rfl (lv_at hl 0 rfl) ?_
  refine lv_bipush (v := 63) hx hb dJ6_bitCount_0f7a4_49 (by decide) ?_
  refine lv_iand hx hb dJ6_bitCount_0f7a4_51 ?_
  exact hret (v5 &&& 63) (σ) _ _ _ _ _ _ dJ6_bitCount_0f7a4_52 rfl hP hD hS (Nat.le_of_ble_eq_true rfl) (Nat.le_of_ble_eq_true rfl) hp
def q_X5_contains_13  (post : Int32 → Mem → Prop)  (s0 : Int32) (σ : Mem) : Prop := (bz s0 ∧ post s0 (σ))
def q_X5_contains  (post : Int32 → Mem → Prop) (p1 : Int32) (p2 : Int32) (σ : Mem) : Prop := ((((p1 >>> (p2 &&& 31)) &&& 1) = 0 → (q_X5_contains_13 post) 0 (σ)) ∧ (¬ (((p1 >>> (p2 &&& 31)) &&& 1) = 0) → (q_X5_contains_13 post) 1 (σ)))
abbrev rm_X5_contains : Room := { frames := 0, cells := 0, slots := 0, locals := 0 }
abbrev wq_X5_contains : List Cond := Cond.code yX5_contains cX5_contains 2 (some .boolean) :: wALL
set_option maxHeartbeats 4000000 in
set_option maxRecDepth 100000 in
theorem c_X5_contains (l : Launch) (D : va_G) (k : Nat → Nat) {sz : Nat} {σ : Mem} {p1 : Int32} {p2 : Int32} {post : Int32 → Mem → Prop} (hp : q_X5_contains post p1 p2 σ) : Met l yX5_contains wq_X5_contains rm_X5_contains (va_Pc [.int p1, .int p2] (Pw D k ([]) sz)) (va_Qi post (fun u => Bw D ([]) sz ([])) (va_A [] sz)) 0 0 (va_A [] sz) := by
  refine fw_i (wf := fun u : Mem => []) (by decide) rfl (Nat.le_of_ble_eq_true rfl) ?_
  intro p e s m args below meth c A Q ls hC hP hD hl hret
  obtain ⟨⟨hx, hb, hml, hown, hts⟩, hG, hA⟩ := id hC
  have hK := hG.1
  have hS : va_S A s.heap s.heap [] := va_S.rf
  have hl : lv_has ls 2 [(0, .int p1), (1, .int p2)] := hl
  have hown : s.vm.findClass RX5 = some m.cls := hown
  unfold q_X5_contains at hp
  have B_13 : ∀ (s0 : Int32) (σ : Mem) (H : Heap) (locs : List Loc) (ls : Array Slot), va_P D vwCl ([]) H → va_D A ([]) → va_S A s.heap H locs → lv_has ls 2 [] → (q_X5_contains_13 post) s0 σ → W p l e rm_X5_contains s m args below meth c H locs 0 0 Q (F0 m 13 ls [.int s0]) := by
    intro s0 σ H locs ls hP hD hS hl hp
    unfold q_X5_contains_13 at hp
    exact hret s0 (σ) _ _ _ _ _ _ dX5_contains_13 hp.1.1 hP hD hS (Nat.le_of_ble_eq_true rfl) (Nat.le_of_ble_eq_true rfl) hp.2
  refine lv_iload_n hx hb dX5_contains_0 rfl (lv_at hl 0 rfl) ?_
  refine lv_iload_n hx hb dX5_contains_1 rfl (lv_at hl 1 rfl) ?_
  refine lv_ishr hx hb dX5_contains_2 ?_
  refine lv_iconst (v := 1) hx hb dX5_contains_3 (by decide) ?_
  refine lv_iand hx hb dX5_contains_4 ?_
  refine lv_if_eq (tgt := 12) hx hb dX5_contains_5 (by decide) (fun c1 => ?_) (fun c1 => ?_)
  · have hp := hp.1 c1
    refine lv_iconst (v := 0) hx hb dX5_contains_12 (by decide) ?_
    exact B_13 0 (σ) _ _ _  hP hD hS (lv_sub hl [] rfl) hp
  · have hp := hp.2 c1
    refine lv_iconst (v := 1) hx hb dX5_contains_8 (by decide) ?_
    refine lv_goto (tgt := 13) hx hb dX5_contains_9 (by decide) ?_
    exact B_13 1 (σ) _ _ _  hP hD hS (lv_sub hl [] rfl) hp
def q_X5_isMachine_15  (post : Int32 → Mem → Prop)  (s0 : Int32) (σ : Mem) : Prop := (bz s0 ∧ post s0 (σ))
def q_X5_isMachine_14  (post : Int32 → Mem → Prop)  (σ : Mem) : Prop := (q_X5_isMachine_15 post) 0 (σ)
def q_X5_isMachine  (post : Int32 → Mem → Prop) (p1 : Int32) (σ : Mem) : Prop := ((p1 < 0 → (q_X5_isMachine_14 post) (σ)) ∧ (¬ (p1 < 0) → ((6 ≤ p1 → (q_X5_isMachine_14 post) (σ)) ∧ (¬ (6 ≤ p1) → (q_X5_isMachine_15 post) 1 (σ)))))
abbrev rm_X5_isMachine : Room := { frames := 0, cells := 0, slots := 0, locals := 0 }
abbrev wq_X5_isMachine : List Cond := Cond.code yX5_isMachine cX5_isMachine 1 (some .boolean) :: wALL
set_option maxHeartbeats 4000000 in
set_option maxRecDepth 100000 in
theorem c_X5_isMachine (l : Launch) (D : va_G) (k : Nat → Nat) {sz : Nat} {σ : Mem} {p1 : Int32} {post : Int32 → Mem → Prop} (hp : q_X5_isMachine post p1 σ) : Met l yX5_isMachine wq_X5_isMachine rm_X5_isMachine (va_Pc [.int p1] (Pw D k ([]) sz)) (va_Qi post (fun u => Bw D ([]) sz ([])) (va_A [] sz)) 0 0 (va_A [] sz) := by
  refine fw_i (wf := fun u : Mem => []) (by decide) rfl (Nat.le_of_ble_eq_true rfl) ?_
  intro p e s m args below meth c A Q ls hC hP hD hl hret
  obtain ⟨⟨hx, hb, hml, hown, hts⟩, hG, hA⟩ := id hC
  have hK := hG.1
  have hS : va_S A s.heap s.heap [] := va_S.rf
  have hl : lv_has ls 1 [(0, .int p1)] := hl
  have hown : s.vm.findClass RX5 = some m.cls := hown
  unfold q_X5_isMachine at hp
  have B_15 : ∀ (s0 : Int32) (σ : Mem) (H : Heap) (locs : List Loc) (ls : Array Slot), va_P D vwCl ([]) H → va_D A ([]) → va_S A s.heap H locs → lv_has ls 1 [] → (q_X5_isMachine_15 post) s0 σ → W p l e rm_X5_isMachine s m args below meth c H locs 0 0 Q (F0 m 15 ls [.int s0]) := by
    intro s0 σ H locs ls hP hD hS hl hp
    unfold q_X5_isMachine_15 at hp
    exact hret s0 (σ) _ _ _ _ _ _ dX5_isMachine_15 hp.1.1 hP hD hS (Nat.le_of_ble_eq_true rfl) (Nat.le_of_ble_eq_true rfl) hp.2
  have B_14 : ∀  (σ : Mem) (H : Heap) (locs : List Loc) (ls : Array Slot), va_P D vwCl ([]) H → va_D A ([]) → va_S A s.heap H locs → lv_has ls 1 [] → (q_X5_isMachine_14 post)  σ → W p l e rm_X5_isMachine s m args below meth c H locs 0 0 Q (F0 m 14 ls []) := by
    intro  σ H locs ls hP hD hS hl hp
    unfold q_X5_isMachine_14 at hp
    refine lv_iconst (v := 0) hx hb dX5_isMachine_14 (by decide) ?_
    exact B_15 0 (σ) _ _ _  hP hD hS (lv_sub hl [] rfl) hp
  refine lv_iload_n hx hb dX5_isMachine_0 rfl (lv_at hl 0 rfl) ?_
  refine lv_if_lt (tgt := 14) hx hb dX5_isMachine_1 (by decide) (fun c1 => ?_) (fun c1 => ?_)
  · have hp := hp.1 c1
    exact B_14  (σ) _ _ _  hP hD hS (lv_sub hl [] rfl) hp
  · have hp := hp.2 c1
    refine lv_iload_n hx hb dX5_isMachine_4 rfl (lv_at hl 0 rfl) ?_
    refine lv_bipush (v := 6) hx hb dX5_isMachine_5 (by decide) ?_
    refine lv_icmp_ge (tgt := 14) hx hb dX5_isMachine_7 (by decide) (fun c2 => ?_) (fun c2 => ?_)
    · have hp := hp.1 c2
      exact B_14  (σ) _ _ _  hP hD hS (lv_sub hl [] rfl) hp
    · have hp := hp.2 c2
      refine lv_iconst (v := 1) hx hb dX5_isMachine_10 (by decide) ?_
      refine lv_goto (tgt := 15) hx hb dX5_isMachine_11 (by decide) ?_
      exact B_15 1 (σ) _ _ _  hP hD hS (lv_sub hl [] rfl) hp
def q_X5_isTeam_14  (post : Int32 → Mem → Prop)  (s0 : Int32) (σ : Mem) : Prop := (bz s0 ∧ post s0 (σ))
def q_X5_isTeam_13  (post : Int32 → Mem → Prop)  (σ : Mem) : Prop := (q_X5_isTeam_14 post) 0 (σ)
def q_X5_isTeam  (post : Int32 → Mem → Prop) (p1 : Int32) (σ : Mem) : Prop := ((p1 < 0 → (q_X5_isTeam_13 post) (σ)) ∧ (¬ (p1 < 0) → ((4 ≤ p1 → (q_X5_isTeam_13 post) (σ)) ∧ (¬ (4 ≤ p1) → (q_X5_isTeam_14 post) 1 (σ)))))
abbrev rm_X5_isTeam : Room := { frames := 0, cells := 0, slots := 0, locals := 0 }
abbrev wq_X5_isTeam : List Cond := Cond.code yX5_isTeam cX5_isTeam 1 (some .boolean) :: wALL
set_option maxHeartbeats 4000000 in
set_option maxRecDepth 100000 in
theorem c_X5_isTeam (l : Launch) (D : va_G) (k : Nat → Nat) {sz : Nat} {σ : Mem} {p1 : Int32} {post : Int32 → Mem → Prop} (hp : q_X5_isTeam post p1 σ) : Met l yX5_isTeam wq_X5_isTeam rm_X5_isTeam (va_Pc [.int p1] (Pw D k ([]) sz)) (va_Qi post (fun u => Bw D ([]) sz ([])) (va_A [] sz)) 0 0 (va_A [] sz) := by
  refine fw_i (wf := fun u : Mem => []) (by decide) rfl (Nat.le_of_ble_eq_true rfl) ?_
  intro p e s m args below meth c A Q ls hC hP hD hl hret
  obtain ⟨⟨hx, hb, hml, hown, hts⟩, hG, hA⟩ := id hC
  have hK := hG.1
  have hS : va_S A s.heap s.heap [] := va_S.rf
  have hl : lv_has ls 1 [(0, .int p1)] := hl
  have hown : s.vm.findClass RX5 = some m.cls := hown
  unfold q_X5_isTeam at hp
  have B_14 : ∀ (s0 : Int32) (σ : Mem) (H : Heap) (locs : List Loc) (ls : Array Slot), va_P D vwCl ([]) H → va_D A ([]) → va_S A s.heap H locs → lv_has ls 1 [] → (q_X5_isTeam_14 post) s0 σ → W p l e rm_X5_isTeam s m args below meth c H locs 0 0 Q (F0 m 14 ls [.int s0]) := by
    intro s0 σ H locs ls hP hD hS hl hp
    unfold q_X5_isTeam_14 at hp
    exact hret s0 (σ) _ _ _ _ _ _ dX5_isTeam_14 hp.1.1 hP hD hS (Nat.le_of_ble_eq_true rfl) (Nat.le_of_ble_eq_true rfl) hp.2
  have B_13 : ∀  (σ : Mem) (H : Heap) (locs : List Loc) (ls : Array Slot), va_P D vwCl ([]) H → va_D A ([]) → va_S A s.heap H locs → lv_has ls 1 [] → (q_X5_isTeam_13 post)  σ → W p l e rm_X5_isTeam s m args below meth c H locs 0 0 Q (F0 m 13 ls []) := by
    intro  σ H locs ls hP hD hS hl hp
    unfold q_X5_isTeam_13 at hp
    refine lv_iconst (v := 0) hx hb dX5_isTeam_13 (by decide) ?_
    exact B_14 0 (σ) _ _ _  hP hD hS (lv_sub hl [] rfl) hp
  refine lv_iload_n hx hb dX5_isTeam_0 rfl (lv_at hl 0 rfl) ?_
  refine lv_if_lt (tgt := 13) hx hb dX5_isTeam_1 (by decide) (fun c1 => ?_) (fun c1 => ?_)
  · have hp := hp.1 c1
    exact B_13  (σ) _ _ _  hP hD hS (lv_sub hl [] rfl) hp
  · have hp := hp.2 c1
    refine lv_iload_n hx hb dX5_isTeam_4 rfl (lv_at hl 0 rfl) ?_
    refine lv_iconst (v := 4) hx hb dX5_isTeam_5 (by decide) ?_
    refine lv_icmp_ge (tgt := 13) hx hb dX5_isTeam_6 (by decide) (fun c2 => ?_) (fun c2 => ?_)
    · have hp := hp.1 c2
      exact B_13  (σ) _ _ _  hP hD hS (lv_sub hl [] rfl) hp
    · have hp := hp.2 c2
      refine lv_iconst (v := 1) hx hb dX5_isTeam_9 (by decide) ?_
      refine lv_goto (tgt := 14) hx hb dX5_isTeam_10 (by decide) ?_
      exact B_14 1 (σ) _ _ _  hP hD hS (lv_sub hl [] rfl) hp
def q_X5_isNumber_15  (post : Int32 → Mem → Prop)  (s0 : Int32) (σ : Mem) : Prop := (bz s0 ∧ post s0 (σ))
def q_X5_isNumber_14  (post : Int32 → Mem → Prop)  (σ : Mem) : Prop := (q_X5_isNumber_15 post) 0 (σ)
def q_X5_isNumber  (post : Int32 → Mem → Prop) (p1 : Int32) (σ : Mem) : Prop := ((p1 < 0 → (q_X5_isNumber_14 post) (σ)) ∧ (¬ (p1 < 0) → ((8 ≤ p1 → (q_X5_isNumber_14 post) (σ)) ∧ (¬ (8 ≤ p1) → (q_X5_isNumber_15 post) 1 (σ)))))
abbrev rm_X5_isNumber : Room := { frames := 0, cells := 0, slots := 0, locals := 0 }
abbrev wq_X5_isNumber : List Cond := Cond.code yX5_isNumber cX5_isNumber 1 (some .boolean) :: wALL
set_option maxHeartbeats 4000000 in
set_option maxRecDepth 100000 in
theorem c_X5_isNumber (l : Launch) (D : va_G) (k : Nat → Nat) {sz : Nat} {σ : Mem} {p1 : Int32} {post : Int32 → Mem → Prop} (hp : q_X5_isNumber post p1 σ) : Met l yX5_isNumber wq_X5_isNumber rm_X5_isNumber (va_Pc [.int p1] (Pw D k ([]) sz)) (va_Qi post (fun u => Bw D ([]) sz ([])) (va_A [] sz)) 0 0 (va_A [] sz) := by
  refine fw_i (wf := fun u : Mem => []) (by decide) rfl (Nat.le_of_ble_eq_true rfl) ?_
  intro p e s m args below meth c A Q ls hC hP hD hl hret
  obtain ⟨⟨hx, hb, hml, hown, hts⟩, hG, hA⟩ := id hC
  have hK := hG.1
  have hS : va_S A s.heap s.heap [] := va_S.rf
  have hl : lv_has ls 1 [(0, .int p1)] := hl
  have hown : s.vm.findClass RX5 = some m.cls := hown
  unfold q_X5_isNumber at hp
  have B_15 : ∀ (s0 : Int32) (σ : Mem) (H : Heap) (locs : List Loc) (ls : Array Slot), va_P D vwCl ([]) H → va_D A ([]) → va_S A s.heap H locs → lv_has ls 1 [] → (q_X5_isNumber_15 post) s0 σ → W p l e rm_X5_isNumber s m args below meth c H locs 0 0 Q (F0 m 15 ls [.int s0]) := by
    intro s0 σ H locs ls hP hD hS hl hp
    unfold q_X5_isNumber_15 at hp
    exact hret s0 (σ) _ _ _ _ _ _ dX5_isNumber_15 hp.1.1 hP hD hS (Nat.le_of_ble_eq_true rfl) (Nat.le_of_ble_eq_true rfl) hp.2
  have B_14 : ∀  (σ : Mem) (H : Heap) (locs : List Loc) (ls : Array Slot), va_P D vwCl ([]) H → va_D A ([]) → va_S A s.heap H locs → lv_has ls 1 [] → (q_X5_isNumber_14 post)  σ → W p l e rm_X5_isNumber s m args below meth c H locs 0 0 Q (F0 m 14 ls []) := by
    intro  σ H locs ls hP hD hS hl hp
    unfold q_X5_isNumber_14 at hp
    refine lv_iconst (v := 0) hx hb dX5_isNumber_14 (by decide) ?_
    exact B_15 0 (σ) _ _ _  hP hD hS (lv_sub hl [] rfl) hp
  refine lv_iload_n hx hb dX5_isNumber_0 rfl (lv_at hl 0 rfl) ?_
  refine lv_if_lt (tgt := 14) hx hb dX5_isNumber_1 (by decide) (fun c1 => ?_) (fun c1 => ?_)
  · have hp := hp.1 c1
    exact B_14  (σ) _ _ _  hP hD hS (lv_sub hl [] rfl) hp
  · have hp := hp.2 c1
    refine lv_iload_n hx hb dX5_isNumber_4 rfl (lv_at hl 0 rfl) ?_
    refine lv_bipush (v := 8) hx hb dX5_isNumber_5 (by decide) ?_
    refine lv_icmp_ge (tgt := 14) hx hb dX5_isNumber_7 (by decide) (fun c2 => ?_) (fun c2 => ?_)
    · have hp := hp.1 c2
      exact B_14  (σ) _ _ _  hP hD hS (lv_sub hl [] rfl) hp
    · have hp := hp.2 c2
      refine lv_iconst (v := 1) hx hb dX5_isNumber_10 (by decide) ?_
      refine lv_goto (tgt := 15) hx hb dX5_isNumber_11 (by decide) ?_
      exact B_15 1 (σ) _ _ _  hP hD hS (lv_sub hl [] rfl) hp
def q_X4_onlyNumber_23  (post : Int32 → Mem → Prop)  (σ : Mem) : Prop := post (-1) (σ)
def q_X4_onlyNumber_15  (post : Int32 → Mem → Prop)  (x1 : Int32) (σ : Mem) : Prop := post x1 (σ)
def q_X4_onlyNumber_2  (post : Int32 → Mem → Prop) (kE_15 : Int32 → Mem → Prop) (kE_23 : Mem → Prop) (kc_2 : Int32 → Int32 → Mem → Prop) (x0 : Int32) (x1 : Int32) (σ : Mem) : Prop := ((8 ≤ x1 → kE_23 (σ)) ∧ (¬ (8 ≤ x1) → ((x0 ≠ ((1 : Int32) <<< (x1 &&& 31)) → (∀ v1003 : Int32, v1003 = x1 + 1 → kc_2 x0 v1003 (σ))) ∧ (x0 = ((1 : Int32) <<< (x1 &&& 31)) → kE_15 x1 (σ)))))
def q_X4_onlyNumber  (post : Int32 → Mem → Prop) (p1 : Int32) (σ : Mem) : Prop := (∃ n9 : Nat, lp_3 (q_X4_onlyNumber_2 post (q_X4_onlyNumber_15 post) (q_X4_onlyNumber_23 post)) n9 p1 0 (σ))
abbrev rm_X4_onlyNumber : Room := { frames := 0, cells := 0, slots := 0, locals := 0 }
abbrev wq_X4_onlyNumber : List Cond := Cond.code yX4_onlyNumber cX4_onlyNumber 2 (some .int) :: wALL
set_option maxHeartbeats 4000000 in
set_option maxRecDepth 100000 in
theorem c_X4_onlyNumber (l : Launch) (D : va_G) (k : Nat → Nat) {sz : Nat} {σ : Mem} {p1 : Int32} {post : Int32 → Mem → Prop} (hp : q_X4_onlyNumber post p1 σ) : Met l yX4_onlyNumber wq_X4_onlyNumber rm_X4_onlyNumber (va_Pc [.int p1] (Pw D k ([]) sz)) (va_Qi post (fun u => Bw D ([]) sz ([])) (va_A [] sz)) 0 0 (va_A [] sz) := by
  refine fw_i (wf := fun u : Mem => []) (by decide) rfl (Nat.le_of_ble_eq_true rfl) ?_
  intro p e s m args below meth c A Q ls hC hP hD hl hret
  obtain ⟨⟨hx, hb, hml, hown, hts⟩, hG, hA⟩ := id hC
  have hK := hG.1
  have hS : va_S A s.heap s.heap [] := va_S.rf
  have hl : lv_has ls 2 [(0, .int p1)] := hl
  have hown : s.vm.findClass RX4 = some m.cls := hown
  unfold q_X4_onlyNumber at hp
  have B_23 : ∀  (σ : Mem) (H : Heap) (locs : List Loc) (ls : Array Slot), va_P D vwCl ([]) H → va_D A ([]) → va_S A s.heap H locs → lv_has ls 2 [] → (q_X4_onlyNumber_23 post)  σ → W p l e rm_X4_onlyNumber s m args below meth c H locs 0 0 Q (F0 m 23 ls []) := by
    intro  σ H locs ls hP hD hS hl hp
    unfold q_X4_onlyNumber_23 at hp
    refine lv_iconst (v := (-1)) hx hb dX4_onlyNumber_23 (by decide) ?_
    exact hret (-1) (σ) _ _ _ _ _ _ dX4_onlyNumber_24 rfl hP hD hS (Nat.le_of_ble_eq_true rfl) (Nat.le_of_ble_eq_true rfl) hp
  have B_15 : ∀ (x1 : Int32) (σ : Mem) (H : Heap) (locs : List Loc) (ls : Array Slot), va_P D vwCl ([]) H → va_D A ([]) → va_S A s.heap H locs → lv_has ls 2 [(1, .int x1)] → (q_X4_onlyNumber_15 post) x1 σ → W p l e rm_X4_onlyNumber s m args below meth c H locs 0 0 Q (F0 m 15 ls []) := by
    intro x1 σ H locs ls hP hD hS hl hp
    unfold q_X4_onlyNumber_15 at hp
    refine lv_iload_n hx hb dX4_onlyNumber_15 rfl (lv_at hl 0 rfl) ?_
    exact hret x1 (σ) _ _ _ _ _ _ dX4_onlyNumber_16 rfl hP hD hS (Nat.le_of_ble_eq_true rfl) (Nat.le_of_ble_eq_true rfl) hp
  have B_2 : ∀ (n_2 : Nat) (x0 : Int32) (x1 : Int32) (σ : Mem) (H : Heap) (locs : List Loc) (ls : Array Slot), va_P D vwCl ([]) H → va_D A ([]) → va_S A s.heap H locs → lv_has ls 2 [(0, .int x0), (1, .int x1)] → lp_3 (q_X4_onlyNumber_2 post (q_X4_onlyNumber_15 post) (q_X4_onlyNumber_23 post)) n_2 x0 x1 σ → W p l e rm_X4_onlyNumber s m args below meth c H locs 0 0 Q (F0 m 2 ls []) := by
    intro n_2
    induction n_2 with
    | zero => intro x0 x1 σ H locs ls hP hD hS hl hp; exact hp.elim
    | succ n_2 ih_2 =>
      intro x0 x1 σ H locs ls hP hD hS hl hp
      have hp : q_X4_onlyNumber_2 post (q_X4_onlyNumber_15 post) (q_X4_onlyNumber_23 post) (lp_3 (q_X4_onlyNumber_2 post (q_X4_onlyNumber_15 post) (q_X4_onlyNumber_23 post)) n_2) x0 x1 σ := hp
      unfold q_X4_onlyNumber_2 at hp
      refine lv_iload_n hx hb dX4_onlyNumber_2 rfl (lv_at hl 1 rfl) ?_
      refine lv_bipush (v := 8) hx hb dX4_onlyNumber_3 (by decide) ?_
      refine lv_icmp_ge (tgt := 23) hx hb dX4_onlyNumber_5 (by decide) (fun c10001 => ?_) (fun c10001 => ?_)
      · have hp := hp.1 c10001
        exact B_23  (σ) _ _ _  hP hD hS (lv_sub hl [] rfl) hp
      · have hp := hp.2 c10001
        refine lv_iload_n hx hb dX4_onlyNumber_8 rfl (lv_at hl 0 rfl) ?_
        refine lv_iconst (v := 1) hx hb dX4_onlyNumber_9 (by decide) ?_
        refine lv_iload_n hx hb dX4_onlyNumber_10 rfl (lv_at hl 1 rfl) ?_
        refine lv_ishl hx hb dX4_onlyNumber_11 ?_
        refine lv_icmp_ne (tgt := 17) hx hb dX4_onlyNumber_12 (by decide) (fun c10002 => ?_) (fun c10002 => ?_)
        · have hp := hp.1 c10002
          obtain ⟨v10003, ev10003⟩ : ∃ z : Int32, z = x1 + 1 := ⟨_, rfl⟩
          have hp := hp v10003 ev10003
          refine lv_iinc (v := v10003) (lv' := [(1, .int v10003), (0, .int x0)]) hx hb dX4_onlyNumber_17 hl (k := 1) rfl (by rw [ev10003]; rfl) (by decide) rfl (fun ls hl => ?_)
          refine lv_goto (tgt := 2) hx hb dX4_onlyNumber_20 (by decide) ?_
          exact ih_2 x0 v10003 (σ) _ _ _  hP hD hS (lv_sub hl [1, 0] rfl) hp
        · have hp := hp.2 c10002
          exact B_15 x1 (σ) _ _ _  hP hD hS (lv_sub hl [1] rfl) hp
  refine lv_iconst (v := 0) hx hb dX4_onlyNumber_0 (by decide) ?_
  refine lv_istore_n (lv' := [(1, .int 0), (0, .int p1)]) hx hb dX4_onlyNumber_1 rfl hl (by decide) rfl (fun ls hl => ?_)
  obtain ⟨n9, hp⟩ := hp
  exact B_2 n9 p1 0 (σ) _ _ _  hP hD hS (lv_sub hl [1, 0] rfl) hp
def q_J7_fill_53178_20 (n : Nat) (post : Mem → Prop)  (σ : Mem) : Prop := post (σ)
def q_J7_fill_53178_5 (n : Nat) (post : Mem → Prop) (kE_20 : Mem → Prop) (kc_5 : Int32 → Int32 → Int32 → Mem → Prop) (x1 : Int32) (x2 : Int32) (x3 : Int32) (σ : Mem) : Prop := ((x3 ≤ x2 → kE_20 (σ)) ∧ (¬ (x3 ≤ x2) → (vp_in x2 n ∧ (∀ σ1003 : Mem, σ1003 = mst (σ) 0 x2.toNatClampNeg x1 → (∀ v1004 : Int32, v1004 = x2 + 1 → kc_5 x1 v1004 x3 (σ1003))))))
def q_J7_fill_53178 (n : Nat) (post : Mem → Prop) (p2 : Int32) (σ : Mem) : Prop := (∀ v1 : Int32, v1 = (nI n) → (∃ n9 : Nat, lp_4 (q_J7_fill_53178_5 n post (q_J7_fill_53178_20 n post)) n9 p2 0 v1 (σ)))
abbrev rm_J7_fill_53178 : Room := { frames := 0, cells := 0, slots := 0, locals := 0 }
abbrev wq_J7_fill_53178 : List Cond := Cond.code yJ7_fill_53178 cJ7_fill_53178 4 none :: wALL
set_option maxHeartbeats 4000000 in
set_option maxRecDepth 100000 in
theorem c_J7_fill_53178 (l : Launch) (D : va_G) (k ad : Nat → Nat) (n : Nat) {sz : Nat} {σ : Mem} {p2 : Int32} {post : Mem → Prop} (hp : q_J7_fill_53178 n post p2 σ) : Met l yJ7_fill_53178 wq_J7_fill_53178 rm_J7_fill_53178 (va_Pc [.ref (ad 0), .int p2] (Pw D k (W1 k ad n (σ)) sz)) (va_Qv post (fun u => Bw D (W1 k ad n (σ)) sz (W1 k ad n u)) (va_A (W1 k ad n (σ)) sz)) 0 0 (va_A (W1 k ad n (σ)) sz) := by
  refine fw_v (wf := fun u : Mem => W1 k ad n u) (by decide) rfl (Nat.le_of_ble_eq_true rfl) ?_
  intro p e s m args below meth c A Q ls hC hP hD hl hmn hret
  obtain ⟨⟨hx, hb, hml, hown, hts⟩, hG, hA⟩ := id hC
  have hK := hG.1
  have hS : va_S A s.heap s.heap [] := va_S.rf
  have hl : lv_has ls 4 [(0, .ref (ad 0)), (1, .int p2)] := hl
  have hown : s.vm.findClass RJ7 = some m.cls := hown
  unfold q_J7_fill_53178 at hp
  have B_20 : ∀  (σ : Mem) (H : Heap) (locs : List Loc) (ls : Array Slot), va_P D vwCl (W1 k ad n (σ)) H → va_D A (W1 k ad n (σ)) → va_S A s.heap H locs → lv_has ls 4 [] → (q_J7_fill_53178_20 n post)  σ → W p l e rm_J7_fill_53178 s m args below meth c H locs 0 0 Q (F0 m 20 ls []) := by
    intro  σ H locs ls hP hD hS hl hp
    unfold q_J7_fill_53178_20 at hp
    exact hret (σ) _ _ _ _ _ _ dJ7_fill_53178_20 hP hD hS (Nat.le_of_ble_eq_true rfl) (Nat.le_of_ble_eq_true rfl) hp
  have B_5 : ∀ (n_5 : Nat) (x1 : Int32) (x2 : Int32) (x3 : Int32) (σ : Mem) (H : Heap) (locs : List Loc) (ls : Array Slot), va_P D vwCl (W1 k ad n (σ)) H → va_D A (W1 k ad n (σ)) → va_S A s.heap H locs → lv_has ls 4 [(0, .ref (ad 0)), (1, .int x1), (2, .int x2), (3, .int x3)] → lp_4 (q_J7_fill_53178_5 n post (q_J7_fill_53178_20 n post)) n_5 x1 x2 x3 σ → W p l e rm_J7_fill_53178 s m args below meth c H locs 0 0 Q (F0 m 5 ls []) := by
    intro n_5
    induction n_5 with
    | zero => intro x1 x2 x3 σ H locs ls hP hD hS hl hp; exact hp.elim
    | succ n_5 ih_5 =>
      intro x1 x2 x3 σ H locs ls hP hD hS hl hp
      have hp : q_J7_fill_53178_5 n post (q_J7_fill_53178_20 n post) (lp_4 (q_J7_fill_53178_5 n post (q_J7_fill_53178_20 n post)) n_5) x1 x2 x3 σ := hp
      unfold q_J7_fill_53178_5 at hp
      refine lv_iload_n hx hb dJ7_fill_53178_5 rfl (lv_at hl 2 rfl) ?_
      refine lv_iload_n hx hb dJ7_fill_53178_6 rfl (lv_at hl 3 rfl) ?_
      refine lv_icmp_ge (tgt := 20) hx hb dJ7_fill_53178_7 (by decide) (fun c10001 => ?_) (fun c10001 => ?_)
      · have hp := hp.1 c10001
        exact B_20  (σ) _ _ _  hP hD hS (lv_sub hl [] rfl) hp
      · have hp := hp.2 c10001
        refine lv_aload_n hx hb dJ7_fill_53178_10 rfl (lv_at hl 0 rfl) ?_
        refine lv_iload_n hx hb dJ7_fill_53178_11 rfl (lv_at hl 2 rfl) ?_
        refine lv_iload_n hx hb dJ7_fill_53178_12 rfl (lv_at hl 1 rfl) ?_
        obtain ⟨h10002, hp⟩ := hp
        refine va_iast hx hb hK hP hD hS 0 0 rfl rfl h10002 dJ7_fill_53178_13 (fun H locs hP hD hS => ?_)
        obtain ⟨σ10003, eσ10003⟩ : ∃ z : Mem, z = mst (σ) 0 x2.toNatClampNeg x1 := ⟨_, rfl⟩
        have hp := hp σ10003 eσ10003
        have hP : va_P D vwCl (W1 k ad n (σ10003)) H := by rw [eσ10003]; exact hP
        have hD : va_D A (W1 k ad n (σ10003)) := by rw [eσ10003]; exact hD
        obtain ⟨v10004, ev10004⟩ : ∃ z : Int32, z = x2 + 1 := ⟨_, rfl⟩
        have hp := hp v10004 ev10004
        refine lv_iinc (v := v10004) (lv' := [(2, .int v10004), (0, .ref (ad 0)), (1, .int x1), (3, .int x3)]) hx hb dJ7_fill_53178_14 hl (k := 2) rfl (by rw [ev10004]; rfl) (by decide) rfl (fun ls hl => ?_)
        refine lv_goto (tgt := 5) hx hb dJ7_fill_53178_17 (by decide) ?_
        exact ih_5 x1 v10004 x3 (σ10003) _ _ _  hP hD hS (lv_sub hl [1, 2, 0, 3] rfl) hp
  refine lv_iconst (v := 0) hx hb dJ7_fill_53178_0 (by decide) ?_
  refine lv_istore_n (lv' := [(2, .int 0), (0, .ref (ad 0)), (1, .int p2)]) hx hb dJ7_fill_53178_1 rfl hl (by decide) rfl (fun ls hl => ?_)
  refine lv_aload_n hx hb dJ7_fill_53178_2 rfl (lv_at hl 1 rfl) ?_
  refine va_alen hx hb hK hP 0 0 rfl rfl (v := nI n) rfl dJ7_fill_53178_3 ?_
  refine lv_topi (fun v1 ev1 => ?_)
  have hp := hp v1 ev1
  refine lv_istore_n (lv' := [(3, .int v1), (2, .int 0), (0, .ref (ad 0)), (1, .int p2)]) hx hb dJ7_fill_53178_4 rfl hl (by decide) rfl (fun ls hl => ?_)
  obtain ⟨n9, hp⟩ := hp
  exact B_5 n9 p2 0 v1 (σ) _ _ _  hP hD hS (lv_sub hl [2, 3, 1, 0] rfl) hp
theorem fl_ok {n : Nat} (hn : n < 2 ^ 31) (v : Int32) (f : Nat → Int32) {post : Mem → Prop} (hpost : ∀ τ : Mem, τ 0 = fl_row n v f → post τ) : q_J7_fill_53178 n post v (fun _ => f) := by
  intro v1 e1
  subst e1
  have K : ∀ (d i : Nat) (τ : Mem), i + d = n → τ 0 = fl_row i v f → lp_4 (q_J7_fill_53178_5 n post (q_J7_fill_53178_20 n post)) (d + 1) v (nI i) (nI n) τ := by
    intro d
    induction d with
    | zero =>
      intro i τ hi hτ
      have hin : i = n := by omega
      subst hin
      exact ⟨fun _ => hpost τ hτ, fun c => absurd (nI_le (Nat.le_refl i) hn) c⟩
    | succ d ih =>
      intro i τ hi hτ
      refine ⟨fun c => absurd c (nI_ge (by omega) hn), fun _ => ⟨vp_in_nI (by omega) hn, fun σ1 e1 w ew => ?_⟩⟩
      subst e1
      subst ew
      rw [nI_1, nI_clamp (by omega)]
      refine ih (i + 1) _ (by omega) ?_
      funext j
      show (if j = i then v else τ 0 j) = if j < i + 1 then v else f j
      rw [hτ]
      show (if j = i then v else (if j < i then v else f j)) = if j < i + 1 then v else f j
      by_cases h : j = i
      · rw [if_pos h, if_pos (by omega)]
      · rw [if_neg h]
        by_cases h2 : j < i
        · rw [if_pos h2, if_pos (by omega)]
        · rw [if_neg h2, if_neg (by omega)]
  refine ⟨n + 1, ?_⟩
  have h := K n 0 (fun _ => f) (by omega) (by funext j; show f j = if j < 0 then v else f j; rw [if_neg (Nat.not_lt_zero j)])
  rw [nI_0] at h
  exact h
/-- Arrays.fill(row, v) -/
theorem c_J7_fill (l : Launch) (D : va_G) (k : Nat → Nat) (a n : Nat) (f : Nat → Int32) (v : Int32) (hn : n < 2 ^ 31) {sz : Nat} : Met l yJ7_fill_53178 wq_J7_fill_53178 rm_J7_fill_53178 (va_Pc [.ref a, .int v] (Pw D k [(a, .inl (k 0, n, .inl f))] sz)) (va_Qv (fun u : Nat → Int32 => u = fl_row n v f) (fun u => Bw D [(a, .inl (k 0, n, .inl f))] sz [(a, .inl (k 0, n, .inl u))]) (va_A [(a, .inl (k 0, n, .inl f))] sz)) 0 0 (va_A [(a, .inl (k 0, n, .inl f))] sz) :=
  MetFree.mono (c_J7_fill_53178 l D k (fun _ => a) n (sz := sz) (fl_ok hn v f (post := fun τ => τ 0 = fl_row n v f) (fun _ h => h))) (fun _ _ h => h) (fun _ _ _ _ _ h => h) (fun x st o t _ hq => by
    obtain ⟨⟨⟨u, h1, h2, h3⟩, h4⟩, h5⟩ := hq
    exact ⟨⟨⟨u 0, h1, h2, h3⟩, h4⟩, h5⟩)
