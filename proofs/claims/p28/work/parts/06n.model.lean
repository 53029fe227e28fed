def q_J6_numberOfTrailingZeros_0f7a4_74  (post : Int32 → Mem → Prop)  (x0 : Int32) (x1 : Int32) (σ : Mem) : Prop := post (x1 + ((x0.toUInt32 >>> ((1 : Int32).toUInt32 &&& Int32.toUInt32 31)).toInt32)) (σ)
def q_J6_numberOfTrailingZeros_0f7a4_62  (post : Int32 → Mem → Prop)  (x0 : Int32) (x1 : Int32) (σ : Mem) : Prop := ((x0 ≤ 4 → (q_J6_numberOfTrailingZeros_0f7a4_74 post) x0 x1 (σ)) ∧ (¬ (x0 ≤ 4) → (∀ v3002 : Int32, v3002 = x1 + 2 → (∀ v3003 : Int32, v3003 = ((x0.toUInt32 >>> ((2 : Int32).toUInt32 &&& Int32.toUInt32 31)).toInt32) → (q_J6_numberOfTrailingZeros_0f7a4_74 post) v3003 v3002 (σ)))))
def q_J6_numberOfTrailingZeros_0f7a4_49  (post : Int32 → Mem → Prop)  (x0 : Int32) (x1 : Int32) (σ : Mem) : Prop := ((x0 ≤ 16 → (q_J6_numberOfTrailingZeros_0f7a4_62 post) x0 x1 (σ)) ∧ (¬ (x0 ≤ 16) → (∀ v2002 : Int32, v2002 = x1 + 4 → (∀ v2003 : Int32, v2003 = ((x0.toUInt32 >>> ((4 : Int32).toUInt32 &&& Int32.toUInt32 31)).toInt32) → (q_J6_numberOfTrailingZeros_0f7a4_62 post) v2003 v2002 (σ)))))
def q_J6_numberOfTrailingZeros_0f7a4_34  (post : Int32 → Mem → Prop)  (x0 : Int32) (x1 : Int32) (σ : Mem) : Prop := ((x0 ≤ 256 → (q_J6_numberOfTrailingZeros_0f7a4_49 post) x0 x1 (σ)) ∧ (¬ (x0 ≤ 256) → (∀ v1002 : Int32, v1002 = x1 + 8 → (∀ v1003 : Int32, v1003 = ((x0.toUInt32 >>> ((8 : Int32).toUInt32 &&& Int32.toUInt32 31)).toInt32) → (q_J6_numberOfTrailingZeros_0f7a4_49 post) v1003 v1002 (σ)))))
def q_J6_numberOfTrailingZeros_0f7a4  (post : Int32 → Mem → Prop) (p1 : Int32) (σ : Mem) : Prop := (∀ v1 : Int32, v1 = ((p1 ^^^ (-1)) &&& (p1 - 1)) → ((0 < v1 → ((v1 ≤ 65536 → (q_J6_numberOfTrailingZeros_0f7a4_34 post) v1 1 (σ)) ∧ (¬ (v1 ≤ 65536) → (∀ v4 : Int32, v4 = (1 : Int32) + 16 → (∀ v5 : Int32, v5 = ((v1.toUInt32 >>> ((16 : Int32).toUInt32 &&& Int32.toUInt32 31)).toInt32) → (q_J6_numberOfTrailingZeros_0f7a4_34 post) v5 v4 (σ)))))) ∧ (¬ (0 < v1) → post (v1 &&& 32) (σ))))
abbrev rm_J6_numberOfTrailingZeros_0f7a4 : Room := { frames := 0, cells := 0, slots := 0, locals := 0 }
abbrev wq_J6_numberOfTrailingZeros_0f7a4 : List Cond := Cond.code yJ6_numberOfTrailingZeros_0f7a4 cJ6_numberOfTrailingZeros_0f7a4 2 (some .int) :: wALL
set_option maxHeartbeats 4000000 in
set_option maxRecDepth 100000 in
theorem c_J6_numberOfTrailingZeros_0f7a4 (l : Launch) (D : va_G) (k : Nat → Nat) {sz : Nat} {σ : Mem} {p1 : Int32} {post : Int32 → Mem → Prop} (hp : q_J6_numberOfTrailingZeros_0f7a4 post p1 σ) : Met l yJ6_numberOfTrailingZeros_0f7a4 wq_J6_numberOfTrailingZeros_0f7a4 rm_J6_numberOfTrailingZeros_0f7a4 (va_Pc [.int p1] (Pw D k ([]) sz)) (va_Qi post (fun u => Bw D ([]) sz ([])) (va_A [] sz)) 0 0 (va_A [] sz) := by
  refine fw_i (wf := fun u : Mem => []) (by decide) rfl (Nat.le_of_ble_eq_true rfl) ?_
  intro p e s m args below meth c A Q ls hC hP hD hl hret
  obtain ⟨⟨hx, hb, hml, hown, hts⟩, hG, hA⟩ := id hC
  have hK := hG.1
  have hS : va_S A s.heap s.heap [] := va_S.rf
  have hl : lv_has ls 2 [(0, .int p1)] := hl
  have hown : s.vm.findClass RJ6 = some m.cls := hown
  unfold q_J6_numberOfTrailingZeros_0f7a4 at hp
  have B_74 : ∀ (x0 : Int32) (x1 : Int32) (σ : Mem) (H : Heap) (locs : List Loc) (ls : Array Slot), va_P D vwCl ([]) H → va_D A ([]) → va_S A s.heap H locs → lv_has ls 2 [(0, .int x0), (1, .int x1)] → (q_J6_numberOfTrailingZeros_0f7a4_74 post) x0 x1 σ → W p l e rm_J6_numberOfTrailingZeros_0f7a4 s m args below meth c H locs 0 0 Q (F0 m 74 ls []) := by
    intro x0 x1 σ H locs ls hP hD hS hl hp
    unfold q_J6_numberOfTrailingZeros_0f7a4_74 at hp
    refine lv_iload_n hx hb dJ6_numberOfTrailingZeros_0f7a4_74 rfl (lv_at hl 1 rfl) ?_
    refine lv_iload_n hx hb dJ6_numberOfTrailingZeros_0f7a4_75 rfl (lv_at hl 0 rfl) ?_
    refine lv_iconst (v := 1) hx hb dJ6_numberOfTrailingZeros_0f7a4_76 (by decide) ?_
    refine lv_iushr (v := (x0.toUInt32 >>> ((1 : Int32).toUInt32 &&& Int32.toUInt32 31)).toInt32) hx hb dJ6_numberOfTrailingZeros_0f7a4_77 rfl ?_
    refine lv_iadd hx hb dJ6_numberOfTrailingZeros_0f7a4_78 ?_
    exact hret (x1 + ((x0.toUInt32 >>> ((1 : Int32).toUInt32 &&& Int32.toUInt32 31)).toInt32)) (σ) _ _ _ _ _ _ dJ6_numberOfTrailingZeros_0f7a4_79 rfl hP hD hS (Nat.le_of_ble_eq_true rfl) (Nat.le_of_ble_eq_true rfl) hp
  have B_62 : ∀ (x0 : Int32) (x1 : Int32) (σ : Mem) (H : Heap) (locs : List Loc) (ls : Array Slot), va_P D vwCl ([]) H → va_D A ([]) → va_S A s.heap H locs → lv_has ls 2 [(0, .int x0), (1, .int x1)] → (q_J6_numberOfTrailingZeros_0f7a4_62 post) x0 x1 σ → W p l e rm_J6_numberOfTrailingZeros_0f7a4 s m args below meth c H locs 0 0 Q (F0 m 62 ls []) := by
    intro x0 x1 σ H locs ls hP hD hS hl hp
    unfold q_J6_numberOfTrailingZeros_0f7a4_62 at hp
    refine lv_iload_n hx hb dJ6_numberOfTrailingZeros_0f7a4_62 rfl (lv_at hl 0 rfl) ?_
    refine lv_iconst (v := 4) hx hb dJ6_numberOfTrailingZeros_0f7a4_63 (by decide) ?_
    refine lv_icmp_le (tgt := 74) hx hb dJ6_numberOfTrailingZeros_0f7a4_64 (by decide) (fun c30001 => ?_) (fun c30001 => ?_)
    · have hp := hp.1 c30001
      exact B_74 x0 x1 (σ) _ _ _  hP hD hS (lv_sub hl [0, 1] rfl) hp
    · have hp := hp.2 c30001
      obtain ⟨v30002, ev30002⟩ : ∃ z : Int32, z = x1 + 2 := ⟨_, rfl⟩
      have hp := hp v30002 ev30002
      refine lv_iinc (v := v30002) (lv' := [(1, .int v30002), (0, .int x0)]) hx hb dJ6_numberOfTrailingZeros_0f7a4_67 hl (k := 1) rfl (by rw [ev30002]; rfl) (by decide) rfl (fun ls hl => ?_)
      refine lv_iload_n hx hb dJ6_numberOfTrailingZeros_0f7a4_70 rfl (lv_at hl 1 rfl) ?_
      refine lv_iconst (v := 2) hx hb dJ6_numberOfTrailingZeros_0f7a4_71 (by decide) ?_
      refine lv_iushr (v := (x0.toUInt32 >>> ((2 : Int32).toUInt32 &&& Int32.toUInt32 31)).toInt32) hx hb dJ6_numberOfTrailingZeros_0f7a4_72 rfl ?_
      refine lv_topi (fun v30003 ev30003 => ?_)
      have hp := hp v30003 ev30003
      refine lv_istore_n (lv' := [(0, .int v30003), (1, .int v30002)]) hx hb dJ6_numberOfTrailingZeros_0f7a4_73 rfl hl (by decide) rfl (fun ls hl => ?_)
      exact B_74 v30003 v30002 (σ) _ _ _  hP hD hS (lv_sub hl [0, 1] rfl) hp
  have B_49 : ∀ (x0 : Int32) (x1 : Int32) (σ : Mem) (H : Heap) (locs : List Loc) (ls : Array Slot), va_P D vwCl ([]) H → va_D A ([]) → va_S A s.heap H locs → lv_has ls 2 [(0, .int x0), (1, .int x1)] → (q_J6_numberOfTrailingZeros_0f7a4_49 post) x0 x1 σ → W p l e rm_J6_numberOfTrailingZeros_0f7a4 s m args below meth c H locs 0 0 Q (F0 m 49 ls []) := by
    intro x0 x1 σ H locs ls hP hD hS hl hp
    unfold q_J6_numberOfTrailingZeros_0f7a4_49 at hp
    refine lv_iload_n hx hb dJ6_numberOfTrailingZeros_0f7a4_49 rfl (lv_at hl 0 rfl) ?_
    refine lv_bipush (v := 16) hx hb dJ6_numberOfTrailingZeros_0f7a4_50 (by decide) ?_
    refine lv_icmp_le (tgt := 62) hx hb dJ6_numberOfTrailingZeros_0f7a4_52 (by decide) (fun c20001 => ?_) (fun c20001 => ?_)
    · have hp := hp.1 c20001
      exact B_62 x0 x1 (σ) _ _ _  hP hD hS (lv_sub hl [0, 1] rfl) hp
    · have hp := hp.2 c20001
      obtain ⟨v20002, ev20002⟩ : ∃ z : Int32, z = x1 + 4 := ⟨_, rfl⟩
      have hp := hp v20002 ev20002
      refine lv_iinc (v := v20002) (lv' := [(1, .int v20002), (0, .int x0)]) hx hb dJ6_numberOfTrailingZeros_0f7a4_55 hl (k := 1) rfl (by rw [ev20002]; rfl) (by decide) rfl (fun ls hl => ?_)
      refine lv_iload_n hx hb dJ6_numberOfTrailingZeros_0f7a4_58 rfl (lv_at hl 1 rfl) ?_
      refine lv_iconst (v := 4) hx hb dJ6_numberOfTrailingZeros_0f7a4_59 (by decide) ?_
      refine lv_iushr (v := (x0.toUInt32 >>> ((4 : Int32).toUInt32 &&& Int32.toUInt32 31)).toInt32) hx hb dJ6_numberOfTrailingZeros_0f7a4_60 rfl ?_
      refine lv_topi (fun v20003 ev20003 => ?_)
      have hp := hp v20003 ev20003
      refine lv_istore_n (lv' := [(0, .int v20003), (1, .int v20002)]) hx hb dJ6_numberOfTrailingZeros_0f7a4_61 rfl hl (by decide) rfl (fun ls hl => ?_)
      exact B_62 v20003 v20002 (σ) _ _ _  hP hD hS (lv_sub hl [0, 1] rfl) hp
  have B_34 : ∀ (x0 : Int32) (x1 : Int32) (σ : Mem) (H : Heap) (locs : List Loc) (ls : Array Slot), va_P D vwCl ([]) H → va_D A ([]) → va_S A s.heap H locs → lv_has ls 2 [(0, .int x0), (1, .int x1)] → (q_J6_numberOfTrailingZeros_0f7a4_34 post) x0 x1 σ → W p l e rm_J6_numberOfTrailingZeros_0f7a4 s m args below meth c H locs 0 0 Q (F0 m 34 ls []) := by
    intro x0 x1 σ H locs ls hP hD hS hl hp
    unfold q_J6_numberOfTrailingZeros_0f7a4_34 at hp
    refine lv_iload_n hx hb dJ6_numberOfTrailingZeros_0f7a4_34 rfl (lv_at hl 0 rfl) ?_
    refine lv_sipush (v := 256) hx hb dJ6_numberOfTrailingZeros_0f7a4_35 (by decide) ?_
    refine lv_icmp_le (tgt := 49) hx hb dJ6_numberOfTrailingZeros_0f7a4_38 (by decide) (fun c10001 => ?_) (fun c10001 => ?_)
    · have hp := hp.1 c10001
      exact B_49 x0 x1 (σ) _ _ _  hP hD hS (lv_sub hl [0, 1] rfl) hp
    · have hp := hp.2 c10001
      obtain ⟨v10002, ev10002⟩ : ∃ z : Int32, z = x1 + 8 := ⟨_, rfl⟩
      have hp := hp v10002 ev10002
      refine lv_iinc (v := v10002) (lv' := [(1, .int v10002), (0, .int x0)]) hx hb dJ6_numberOfTrailingZeros_0f7a4_41 hl (k := 1) rfl (by rw [ev10002]; rfl) (by decide) rfl (fun ls hl => ?_)
      refine lv_iload_n hx hb dJ6_numberOfTrailingZeros_0f7a4_44 rfl (lv_at hl 1 rfl) ?_
      refine lv_bipush (v := 8) hx hb dJ6_numberOfTrailingZeros_0f7a4_45 (by decide) ?_
      refine lv_iushr (v := (x0.toUInt32 >>> ((8 : Int32).toUInt32 &&& Int32.toUInt32 31)).toInt32) hx hb dJ6_numberOfTrailingZeros_0f7a4_47 rfl ?_
      refine lv_topi (fun v10003 ev10003 => ?_)
      have hp := hp v10003 ev10003
      refine lv_istore_n (lv' := [(0, .int v10003), (1, .int v10002)]) hx hb dJ6_numberOfTrailingZeros_0f7a4_48 rfl hl (by decide) rfl (fun ls hl => ?_)
      exact B_49 v10003 v10002 (σ) _ _ _  hP hD hS (lv_sub hl [0, 1] rfl) hp
  refine lv_iload_n hx hb dJ6_numberOfTrailingZeros_0f7a4_0 rfl (lv_at hl 0 rfl) ?_
  refine lv_iconst (v := (-1)) hx hb dJ6_numberOfTrailingZeros_0f7a4_1 (by decide) ?_
  refine lv_ixor hx hb dJ6_numberOfTrailingZeros_0f7a4_2 ?_
  refine lv_iload_n hx hb dJ6_numberOfTrailingZeros_0f7a4_3 rfl (lv_at hl 0 rfl) ?_
  refine lv_iconst (v := 1) hx hb dJ6_numberOfTrailingZeros_0f7a4_4 (by decide) ?_
  refine lv_isub hx hb dJ6_numberOfTrailingZeros_0f7a4_5 ?_
  refine lv_iand hx hb dJ6_numberOfTrailingZeros_0f7a4_6 ?_
  refine lv_topi (fun v1 ev1 => ?_)
  have hp := hp v1 ev1
  refine lv_istore_n (lv' := [(0, .int v1)]) hx hb dJ6_numberOfTrailingZeros_0f7a4_7 rfl hl (by decide) rfl (fun ls hl => ?_)
  refine lv_iload_n hx hb dJ6_numberOfTrailingZeros_0f7a4_8 rfl (lv_at hl 0 rfl) ?_
  refine lv_if_gt (tgt := 17) hx hb dJ6_numberOfTrailingZeros_0f7a4_9 (by decide) (fun c2 => ?_) (fun c2 => ?_)
  · have hp := hp.1 c2
    refine lv_iconst (v := 1) hx hb dJ6_numberOfTrailingZeros_0f7a4_17 (by decide) ?_
    refine lv_istore_n (lv' := [(1, .int 1), (0, .int v1)]) hx hb dJ6_numberOfTrailingZeros_0f7a4_18 rfl hl (by decide) rfl (fun ls hl => ?_)
    refine lv_iload_n hx hb dJ6_numberOfTrailingZeros_0f7a4_19 rfl (lv_at hl 1 rfl) ?_
    refine lv_ldcw (v := 65536) hx hb hown (hts _ (List.mem_cons_of_mem _ A_697)) dJ6_numberOfTrailingZeros_0f7a4_20 ?_
    refine lv_icmp_le (tgt := 34) hx hb dJ6_numberOfTrailingZeros_0f7a4_23 (by decide) (fun c3 => ?_) (fun c3 => ?_)
    · have hp := hp.1 c3
      exact B_34 v1 1 (σ) _ _ _  hP hD hS (lv_sub hl [1, 0] rfl) hp
    · have hp := hp.2 c3
      obtain ⟨v4, ev4⟩ : ∃ z : Int32, z = (1 : Int32) + 16 := ⟨_, rfl⟩
      have hp := hp v4 ev4
      refine lv_iinc (v := v4) (lv' := [(1, .int v4), (0, .int v1)]) hx hb dJ6_numberOfTrailingZeros_0f7a4_26 hl (k := 0) rfl (by rw [ev4]; rfl) (by decide) rfl (fun ls hl => ?_)
      refine lv_iload_n hx hb dJ6_numberOfTrailingZeros_0f7a4_29 rfl (lv_at hl 1 rfl) ?_
      refine lv_bipush (v := 16) hx hb dJ6_numberOfTrailingZeros_0f7a4_30 (by decide) ?_
      refine lv_iushr (v := (v1.toUInt32 >>> ((16 : Int32).toUInt32 &&& Int32.toUInt32 31)).toInt32) hx hb dJ6_numberOfTrailingZeros_0f7a4_32 rfl ?_
      refine lv_topi (fun v5 ev5 => ?_)
      have hp := hp v5 ev5
      refine lv_istore_n (lv' := [(0, .int v5), (1, .int v4)]) hx hb dJ6_numberOfTrailingZeros_0f7a4_33 rfl hl (by decide) rfl (fun ls hl => ?_)
      exact B_34 v5 v4 (σ) _ _ _  hP hD hS (lv_sub hl [0, 1] rfl) hp
  · have hp := hp.2 c2
    refine lv_iload_n hx hb dJ6_numberOfTrailingZeros_0f7a4_12 rfl (lv_at hl 0 rfl) ?_
    refine lv_bipush (v := 32) hx hb dJ6_numberOfTrailingZeros_0f7a4_13 (by decide) ?_
    refine lv_iand hx hb dJ6_numberOfTrailingZeros_0f7a4_15 ?_
    exact hret (v1 &&& 32) (σ) _ _ _ _ _ _ dJ6_numberOfTrailingZeros_0f7a4_16 rfl hP hD hS (Nat.le_of_ble_eq_true rfl) (Nat.le_of_ble_eq_true rfl) hp
def q_X8_is_15  (post : Int32 → Mem → Prop)  (s0 : Int32) (σ : Mem) : Prop := (bz s0 ∧ post s0 (σ))
def q_X8_is_14  (post : Int32 → Mem → Prop)  (σ : Mem) : Prop := (q_X8_is_15 post) 0 (σ)
def q_X8_is  (post : Int32 → Mem → Prop) (p1 : Int32) (p2 : Int32) (p3 : Int32) (σ : Mem) : Prop := ((p1 < p2 → (q_X8_is_14 post) (σ)) ∧ (¬ (p1 < p2) → ((p3 < p1 → (q_X8_is_14 post) (σ)) ∧ (¬ (p3 < p1) → (q_X8_is_15 post) 1 (σ)))))
abbrev rm_X8_is : Room := { frames := 0, cells := 0, slots := 0, locals := 0 }
abbrev wq_X8_is : List Cond := Cond.code yX8_is cX8_is 3 (some .boolean) :: wALL
set_option maxHeartbeats 4000000 in
set_option maxRecDepth 100000 in
theorem c_X8_is (l : Launch) (D : va_G) (k : Nat → Nat) {sz : Nat} {σ : Mem} {p1 : Int32} {p2 : Int32} {p3 : Int32} {post : Int32 → Mem → Prop} (hp : q_X8_is post p1 p2 p3 σ) : Met l yX8_is wq_X8_is rm_X8_is (va_Pc [.int p1, .int p2, .int p3] (Pw D k ([]) sz)) (va_Qi post (fun u => Bw D ([]) sz ([])) (va_A [] sz)) 0 0 (va_A [] sz) := by
  refine fw_i (wf := fun u : Mem => []) (by decide) rfl (Nat.le_of_ble_eq_true rfl) ?_
  intro p e s m args below meth c A Q ls hC hP hD hl hret
  obtain ⟨⟨hx, hb, hml, hown, hts⟩, hG, hA⟩ := id hC
  have hK := hG.1
  have hS : va_S A s.heap s.heap [] := va_S.rf
  have hl : lv_has ls 3 [(0, .int p1), (1, .int p2), (2, .int p3)] := hl
  have hown : s.vm.findClass RX8 = some m.cls := hown
  unfold q_X8_is at hp
  have B_15 : ∀ (s0 : Int32) (σ : Mem) (H : Heap) (locs : List Loc) (ls : Array Slot), va_P D vwCl ([]) H → va_D A ([]) → va_S A s.heap H locs → lv_has ls 3 [] → (q_X8_is_15 post) s0 σ → W p l e rm_X8_is s m args below meth c H locs 0 0 Q (F0 m 15 ls [.int s0]) := by
    intro s0 σ H locs ls hP hD hS hl hp
    unfold q_X8_is_15 at hp
    exact hret s0 (σ) _ _ _ _ _ _ dX8_is_15 hp.1.1 hP hD hS (Nat.le_of_ble_eq_true rfl) (Nat.le_of_ble_eq_true rfl) hp.2
  have B_14 : ∀  (σ : Mem) (H : Heap) (locs : List Loc) (ls : Array Slot), va_P D vwCl ([]) H → va_D A ([]) → va_S A s.heap H locs → lv_has ls 3 [] → (q_X8_is_14 post)  σ → W p l e rm_X8_is s m args below meth c H locs 0 0 Q (F0 m 14 ls []) := by
    intro  σ H locs ls hP hD hS hl hp
    unfold q_X8_is_14 at hp
    refine lv_iconst (v := 0) hx hb dX8_is_14 (by decide) ?_
    exact B_15 0 (σ) _ _ _  hP hD hS (lv_sub hl [] rfl) hp
  refine lv_iload_n hx hb dX8_is_0 rfl (lv_at hl 0 rfl) ?_
  refine lv_iload_n hx hb dX8_is_1 rfl (lv_at hl 1 rfl) ?_
  refine lv_icmp_lt (tgt := 14) hx hb dX8_is_2 (by decide) (fun c1 => ?_) (fun c1 => ?_)
  · have hp := hp.1 c1
    exact B_14  (σ) _ _ _  hP hD hS (lv_sub hl [] rfl) hp
  · have hp := hp.2 c1
    refine lv_iload_n hx hb dX8_is_5 rfl (lv_at hl 0 rfl) ?_
    refine lv_iload_n hx hb dX8_is_6 rfl (lv_at hl 2 rfl) ?_
    refine lv_icmp_gt (tgt := 14) hx hb dX8_is_7 (by decide) (fun c2 => ?_) (fun c2 => ?_)
    · have hp := hp.1 c2
      exact B_14  (σ) _ _ _  hP hD hS (lv_sub hl [] rfl) hp
    · have hp := hp.2 c2
      refine lv_iconst (v := 1) hx hb dX8_is_10 (by decide) ?_
      refine lv_goto (tgt := 15) hx hb dX8_is_11 (by decide) ?_
      exact B_15 1 (σ) _ _ _  hP hD hS (lv_sub hl [] rfl) hp
def q_X8_isMachine  (post : Int32 → Mem → Prop) (p1 : Int32) (σ : Mem) : Prop := (q_X8_is (fun (r1 : Int32) (σ2 : Mem) => (bz r1 ∧ post r1 (σ2))) p1 0 5 (σ))
abbrev rm_X8_isMachine : Room := { frames := 1, cells := 0, slots := 0, locals := 22 }
abbrev wq_X8_isMachine : List Cond := Cond.code yX8_isMachine cX8_isMachine 1 (some .boolean) :: wALL
set_option maxHeartbeats 4000000 in
set_option maxRecDepth 100000 in
theorem c_X8_isMachine (l : Launch) (D : va_G) (k : Nat → Nat) {sz : Nat} {σ : Mem} {p1 : Int32} {post : Int32 → Mem → Prop} (hp : q_X8_isMachine post p1 σ) : Met l yX8_isMachine wq_X8_isMachine rm_X8_isMachine (va_Pc [.int p1] (Pw D k ([]) sz)) (va_Qi post (fun u => Bw D ([]) sz ([])) (va_A [] sz)) 0 0 (va_A [] sz) := by
  refine fw_i (wf := fun u : Mem => []) (by decide) rfl (Nat.le_of_ble_eq_true rfl) ?_
  intro p e s m args below meth c A Q ls hC hP hD hl hret
  obtain ⟨⟨hx, hb, hml, hown, hts⟩, hG, hA⟩ := id hC
  have hK := hG.1
  have hS : va_S A s.heap s.heap [] := va_S.rf
  have hl : lv_has ls 1 [(0, .int p1)] := hl
  have hown : s.vm.findClass RX8 = some m.cls := hown
  unfold q_X8_isMachine at hp
  refine lv_iload_n hx hb dX8_isMachine_0 rfl (lv_at hl 0 rfl) ?_
  refine lv_iconst (v := 0) hx hb dX8_isMachine_1 (by decide) ?_
  refine lv_iconst (v := 5) hx hb dX8_isMachine_2 (by decide) ?_
  refine fw_ciS (As := [.int p1, .int 0, .int 5]) (rest := []) hC (c_X8_is l D k hp) (va_cwS 3 hts (gA_S A_599 A_600 A_601 A_596) rfl rfl rfl (by decide +kernel) ⟨Nat.le_of_ble_eq_true rfl, Nat.le_of_ble_eq_true rfl⟩) rfl hl.1 rfl (Nat.le_of_ble_eq_true rfl) dX8_isMachine_3 ⟨Nat.le_of_ble_eq_true rfl, Nat.le_of_ble_eq_true rfl⟩ hP hD hS Jn.same (fun r1 σ2 H locs hP hD hS hp => ?_)
  exact hret r1 (σ2) _ _ _ _ _ _ dX8_isMachine_6 hp.1.1 hP hD hS (Nat.le_of_ble_eq_true rfl) (Nat.le_of_ble_eq_true rfl) hp.2
def q_X8_shifted_14  (post : Int32 → Mem → Prop)  (s0 : Int32) (σ : Mem) : Prop := post (s0 &&& 255) (σ)
def q_X8_shifted  (post : Int32 → Mem → Prop) (p1 : Int32) (p2 : Int32) (σ : Mem) : Prop := ((0 ≤ p2 → (q_X8_shifted_14 post) (p1 <<< (p2 &&& 31)) (σ)) ∧ (¬ (0 ≤ p2) → (q_X8_shifted_14 post) (p1 >>> ((-p2) &&& 31)) (σ)))
abbrev rm_X8_shifted : Room := { frames := 0, cells := 0, slots := 0, locals := 0 }
abbrev wq_X8_shifted : List Cond := Cond.code yX8_shifted cX8_shifted 2 (some .int) :: wALL
set_option maxHeartbeats 4000000 in
set_option maxRecDepth 100000 in
theorem c_X8_shifted (l : Launch) (D : va_G) (k : Nat → Nat) {sz : Nat} {σ : Mem} {p1 : Int32} {p2 : Int32} {post : Int32 → Mem → Prop} (hp : q_X8_shifted post p1 p2 σ) : Met l yX8_shifted wq_X8_shifted rm_X8_shifted (va_Pc [.int p1, .int p2] (Pw D k ([]) sz)) (va_Qi post (fun u => Bw D ([]) sz ([])) (va_A [] sz)) 0 0 (va_A [] sz) := by
  refine fw_i (wf := fun u : Mem => []) (by decide) rfl (Nat.le_of_ble_eq_true rfl) ?_
  intro p e s m args below meth c A Q ls hC hP hD hl hret
  obtain ⟨⟨hx, hb, hml, hown, hts⟩, hG, hA⟩ := id hC
  have hK := hG.1
  have hS : va_S A s.heap s.heap [] := va_S.rf
  have hl : lv_has ls 2 [(0, .int p1), (1, .int p2)] := hl
  have hown : s.vm.findClass RX8 = some m.cls := hown
  unfold q_X8_shifted at hp
  have B_14 : ∀ (s0 : Int32) (σ : Mem) (H : Heap) (locs : List Loc) (ls : Array Slot), va_P D vwCl ([]) H → va_D A ([]) → va_S A s.heap H locs → lv_has ls 2 [] → (q_X8_shifted_14 post) s0 σ → W p l e rm_X8_shifted s m args below meth c H locs 0 0 Q (F0 m 14 ls [.int s0]) := by
    intro s0 σ H locs ls hP hD hS hl hp
    unfold q_X8_shifted_14 at hp
    refine lv_sipush (v := 255) hx hb dX8_shifted_14 (by decide) ?_
    refine lv_iand hx hb dX8_shifted_17 ?_
    exact hret (s0 &&& 255) (σ) _ _ _ _ _ _ dX8_shifted_18 rfl hP hD hS (Nat.le_of_ble_eq_true rfl) (Nat.le_of_ble_eq_true rfl) hp
  refine lv_iload_n hx hb dX8_shifted_0 rfl (lv_at hl 1 rfl) ?_
  refine lv_if_ge (tgt := 11) hx hb dX8_shifted_1 (by decide) (fun c1 => ?_) (fun c1 => ?_)
  · have hp := hp.1 c1
    refine lv_iload_n hx hb dX8_shifted_11 rfl (lv_at hl 0 rfl) ?_
    refine lv_iload_n hx hb dX8_shifted_12 rfl (lv_at hl 1 rfl) ?_
    refine lv_ishl hx hb dX8_shifted_13 ?_
    exact B_14 (p1 <<< (p2 &&& 31)) (σ) _ _ _  hP hD hS (lv_sub hl [] rfl) hp
  · have hp := hp.2 c1
    refine lv_iload_n hx hb dX8_shifted_4 rfl (lv_at hl 0 rfl) ?_
    refine lv_iload_n hx hb dX8_shifted_5 rfl (lv_at hl 1 rfl) ?_
    refine lv_ineg hx hb dX8_shifted_6 ?_
    refine lv_ishr hx hb dX8_shifted_7 ?_
    refine lv_goto (tgt := 14) hx hb dX8_shifted_8 (by decide) ?_
    exact B_14 (p1 >>> ((-p2) &&& 31)) (σ) _ _ _  hP hD hS (lv_sub hl [] rfl) hp
def q_X8_refuse (n : Nat) (c : Nat) (post : Int32 → Mem → Prop) (p1 : Int32) (σ : Mem) : Prop := (∀ σ1 : Mem, σ1 = mst (σ) 0 0 p1 → post 0 (σ1))
abbrev rm_X8_refuse : Room := { frames := 0, cells := 0, slots := 0, locals := 0 }
abbrev wq_X8_refuse : List Cond := Cond.code yX8_refuse cX8_refuse 2 (some .int) :: wALL
set_option maxHeartbeats 4000000 in
set_option maxRecDepth 100000 in
theorem c_X8_refuse (l : Launch) (D : va_G) (k ad g : Nat → Nat) (hg : gok g) {sz : Nat} {σ : Mem} {p1 : Int32} {post : Int32 → Mem → Prop} (hp : q_X8_refuse (g 0) (g 2) post p1 σ) : Met l yX8_refuse wq_X8_refuse rm_X8_refuse (va_Pc [.ref (ad 0), .int p1] (Pw D k (WM k ad g (σ)) sz)) (va_Qi post (fun u => Bw D (WM k ad g (σ)) sz (WM k ad g u)) (va_A (WM k ad g (σ)) sz)) 0 0 (va_A (WM k ad g (σ)) sz) := by
  refine fw_i (wf := fun u : Mem => WM k ad g u) (by decide) rfl (Nat.le_of_ble_eq_true rfl) ?_
  intro p e s m args below meth c A Q ls hC hP hD hl hret
  obtain ⟨⟨hx, hb, hml, hown, hts⟩, hG, hA⟩ := id hC
  have hK := hG.1
  have hS : va_S A s.heap s.heap [] := va_S.rf
  have hin_X8 : ∀ w ∈ u_ws RX8 TX8 15, w ∈ wq_X8_refuse := fun w h => List.mem_cons_of_mem _ (iU_X8 w h)
  have hf_41 := hts _ (List.mem_cons_of_mem _ A_595)
  have hl : lv_has ls 2 [(0, .ref (ad 0)), (1, .int p1)] := hl
  have hown : s.vm.findClass RX8 = some m.cls := hown
  unfold q_X8_refuse at hp
  refine lv_aload_n hx hb dX8_refuse_0 rfl (lv_at hl 0 rfl) ?_
  refine lv_iload_n hx hb dX8_refuse_1 rfl (lv_at hl 1 rfl) ?_
  refine va_put (D := D) (ci := 12) (v := .int p1) (ty := .int) (C := RX8) (T := TX8) (N := 15) hx hb hts hin_X8 tyX8 tyX8_ok nmX8 hown hK hP hD hS 0 rfl rfl 0 (by decide) hf_41 (fun _ h9 => h9) rfl (by decide +kernel) rfl rfl (Nat.le_of_ble_eq_true rfl) dX8_refuse_2 (fun H locs hP hD hS => ?_)
  obtain ⟨σ1, eσ1⟩ : ∃ z : Mem, z = mst (σ) 0 0 p1 := ⟨_, rfl⟩
  have hp := hp σ1 eσ1
  have hP : va_P D vwCl (WM k ad g (σ1)) H := by rw [eσ1, WM_s (by decide)]; exact hP
  have hD : va_D A (WM k ad g (σ1)) := by rw [eσ1, WM_s (by decide)]; exact hD
  refine lv_iconst (v := 0) hx hb dX8_refuse_5 (by decide) ?_
  exact hret 0 (σ1) _ _ _ _ _ _ dX8_refuse_6 rfl hP hD hS (Nat.le_of_ble_eq_true rfl) (Nat.le_of_ble_eq_true rfl) hp
def q_X8_isField (n : Nat) (c : Nat) (post : Int32 → Mem → Prop) (p1 : Int32) (σ : Mem) : Prop := (q_X8_is (fun (r1 : Int32) (σ2 : Mem) => (bz r1 ∧ post r1 (σ))) p1 0 (((σ) 0 3) - 1) (σ))
abbrev rm_X8_isField : Room := { frames := 1, cells := 0, slots := 0, locals := 22 }
abbrev wq_X8_isField : List Cond := Cond.code yX8_isField cX8_isField 2 (some .boolean) :: wALL
set_option maxHeartbeats 4000000 in
set_option maxRecDepth 100000 in
theorem c_X8_isField (l : Launch) (D : va_G) (k ad g : Nat → Nat) (hg : gok g) {sz : Nat} {σ : Mem} {p1 : Int32} {post : Int32 → Mem → Prop} (hp : q_X8_isField (g 0) (g 2) post p1 σ) : Met l yX8_isField wq_X8_isField rm_X8_isField (va_Pc [.ref (ad 0), .int p1] (Pw D k (WM k ad g (σ)) sz)) (va_Qi post (fun u => Bw D (WM k ad g (σ)) sz (WM k ad g u)) (va_A (WM k ad g (σ)) sz)) 0 0 (va_A (WM k ad g (σ)) sz) := by
  refine fw_i (wf := fun u : Mem => WM k ad g u) (by decide) rfl (Nat.le_of_ble_eq_true rfl) ?_
  intro p e s m args below meth c A Q ls hC hP hD hl hret
  obtain ⟨⟨hx, hb, hml, hown, hts⟩, hG, hA⟩ := id hC
  have hK := hG.1
  have hS : va_S A s.heap s.heap [] := va_S.rf
  have hin_X8 : ∀ w ∈ u_ws RX8 TX8 15, w ∈ wq_X8_isField := fun w h => List.mem_cons_of_mem _ (iU_X8 w h)
  have hf_45 := hts _ (List.mem_cons_of_mem _ A_598)
  have hl : lv_has ls 2 [(0, .ref (ad 0)), (1, .int p1)] := hl
  have hown : s.vm.findClass RX8 = some m.cls := hown
  unfold q_X8_isField at hp
  refine lv_iload_n hx hb dX8_isField_0 rfl (lv_at hl 1 rfl) ?_
  refine lv_iconst (v := 0) hx hb dX8_isField_1 (by decide) ?_
  refine lv_aload_n hx hb dX8_isField_2 rfl (lv_at hl 0 rfl) ?_
  refine va_get (D := D) (ci := 12) (C := RX8) (T := TX8) (N := 15) hx hb hts hin_X8 hown hK hP 0 rfl rfl 3 (by decide) hf_45 (fun _ h9 => h9) rfl dX8_isField_3 ?_
  refine lv_iconst (v := 1) hx hb dX8_isField_6 (by decide) ?_
  refine lv_isub hx hb dX8_isField_7 ?_
  refine fw_ciS (As := [.int p1, .int 0, .int (((σ) 0 3) - 1)]) (rest := []) hC (c_X8_is l D k hp) (va_cwS 3 hts (gA_S A_599 A_600 A_601 A_596) rfl rfl rfl (by decide +kernel) ⟨Nat.le_of_ble_eq_true rfl, Nat.le_of_ble_eq_true rfl⟩) rfl hl.1 rfl (Nat.le_of_ble_eq_true rfl) dX8_isField_8 ⟨Nat.le_of_ble_eq_true rfl, Nat.le_of_ble_eq_true rfl⟩ P_nil D_nil hS (Jn.pure (w0 := fun _ : Mem => []) hP hD) (fun r1 σ2 H locs hP hD hS hp => ?_)
  have hP : va_P D vwCl (WM k ad g (σ)) H := hP
  have hD : va_D A (WM k ad g (σ)) := hD
  exact hret r1 (σ) _ _ _ _ _ _ dX8_isField_11 hp.1.1 hP hD hS (Nat.le_of_ble_eq_true rfl) (Nat.le_of_ble_eq_true rfl) hp.2
def q_X8_isLine (n : Nat) (c : Nat) (post : Int32 → Mem → Prop) (p1 : Int32) (σ : Mem) : Prop := (q_X8_is (fun (r1 : Int32) (σ2 : Mem) => (bz r1 ∧ post r1 (σ))) p1 0 ((nI n) - 1) (σ))
abbrev rm_X8_isLine : Room := { frames := 3, cells := 0, slots := 0, locals := 200 }
abbrev wq_X8_isLine : List Cond := Cond.code yX8_isLine cX8_isLine 2 (some .boolean) :: wALL
set_option maxHeartbeats 4000000 in
set_option maxRecDepth 100000 in
theorem c_X8_isLine (l : Launch) (D : va_G) (k ad g : Nat → Nat) (hg : gok g) {sz : Nat} {σ : Mem} {p1 : Int32} {post : Int32 → Mem → Prop} (hp : q_X8_isLine (g 0) (g 2) post p1 σ) : Met l yX8_isLine wq_X8_isLine rm_X8_isLine (va_Pc [.ref (ad 0), .int p1] (Pw D k (WM k ad g (σ)) sz)) (va_Qi post (fun u => Bw D (WM k ad g (σ)) sz (WM k ad g u)) (va_A (WM k ad g (σ)) sz)) 0 0 (va_A (WM k ad g (σ)) sz) := by
  refine fw_i (wf := fun u : Mem => WM k ad g u) (by decide) rfl (Nat.le_of_ble_eq_true rfl) ?_
  intro p e s m args below meth c A Q ls hC hP hD hl hret
  obtain ⟨⟨hx, hb, hml, hown, hts⟩, hG, hA⟩ := id hC
  have hK := hG.1
  have hS : va_S A s.heap s.heap [] := va_S.rf
  have hin_X8 : ∀ w ∈ u_ws RX8 TX8 15, w ∈ wq_X8_isLine := fun w h => List.mem_cons_of_mem _ (iU_X8 w h)
  have hf_19 := hts _ (List.mem_cons_of_mem _ A_584)
  have hl : lv_has ls 2 [(0, .ref (ad 0)), (1, .int p1)] := hl
  have hown : s.vm.findClass RX8 = some m.cls := hown
  unfold q_X8_isLine at hp
  refine lv_iload_n hx hb dX8_isLine_0 rfl (lv_at hl 1 rfl) ?_
  refine lv_iconst (v := 0) hx hb dX8_isLine_1 (by decide) ?_
  refine lv_aload_n hx hb dX8_isLine_2 rfl (lv_at hl 0 rfl) ?_
  refine va_get (D := D) (ci := 12) (C := RX8) (T := TX8) (N := 15) hx hb hts hin_X8 hown hK hP 0 rfl rfl 4 (by decide) hf_19 (fun _ h9 => h9) rfl dX8_isLine_3 ?_
  refine wm_size_line (rest := [.int 0, .int p1]) hC (gA_V (a := Cond.code yX8_isLine cX8_isLine 2 (some .boolean)) A_605 A_606 A_607 A_583 A_602) hl.1 rfl (Nat.le_of_ble_eq_true rfl) (Nat.le_of_ble_eq_true rfl) (Nat.le_of_ble_eq_true rfl) dX8_isLine_6 ⟨Nat.le_of_ble_eq_true rfl, Nat.le_of_ble_eq_true rfl⟩ hP hD hS (fun H locs hP hD hS => ?_)
  refine lv_iconst (v := 1) hx hb dX8_isLine_9 (by decide) ?_
  refine lv_isub hx hb dX8_isLine_10 ?_
  refine fw_ciS (As := [.int p1, .int 0, .int ((nI (g 0)) - 1)]) (rest := []) hC (c_X8_is l D k hp) (va_cwS 3 hts (gA_S A_599 A_600 A_601 A_596) rfl rfl rfl (by decide +kernel) ⟨Nat.le_of_ble_eq_true rfl, Nat.le_of_ble_eq_true rfl⟩) rfl hl.1 rfl (Nat.le_of_ble_eq_true rfl) dX8_isLine_11 ⟨Nat.le_of_ble_eq_true rfl, Nat.le_of_ble_eq_true rfl⟩ P_nil D_nil hS (Jn.pure (w0 := fun _ : Mem => []) hP hD) (fun r1 σ2 H locs hP hD hS hp => ?_)
  have hP : va_P D vwCl (WM k ad g (σ)) H := hP
  have hD : va_D A (WM k ad g (σ)) := hD
  exact hret r1 (σ) _ _ _ _ _ _ dX8_isLine_14 hp.1.1 hP hD hS (Nat.le_of_ble_eq_true rfl) (Nat.le_of_ble_eq_true rfl) hp.2
def q_X8_counts_35 (n : Nat) (c : Nat) (j : Nat) (post : Int32 → Mem → Prop)  (s0 : Int32) (σ : Mem) : Prop := (bz s0 ∧ post s0 (σ))
def q_X8_counts_34 (n : Nat) (c : Nat) (j : Nat) (post : Int32 → Mem → Prop)  (σ : Mem) : Prop := (q_X8_counts_35 n c j post) 0 (σ)
def q_X8_counts_30 (n : Nat) (c : Nat) (j : Nat) (post : Int32 → Mem → Prop)  (σ : Mem) : Prop := (q_X8_counts_35 n c j post) 1 (σ)
def q_X8_counts (n : Nat) (c : Nat) (j : Nat) (post : Int32 → Mem → Prop) (σ : Mem) : Prop := ((((σ) (100 + j) 6) ≠ 0 → (q_X8_counts_34 n c j post) (σ)) ∧ (((σ) (100 + j) 6) = 0 → (vp_in ((σ) (100 + j) 2) 5 ∧ ((((σ) (100 + j) 1) = ((σ) 1 (((σ) (100 + j) 2).toNatClampNeg)) → (q_X8_counts_30 n c j post) (σ)) ∧ (¬ (((σ) (100 + j) 1) = ((σ) 1 (((σ) (100 + j) 2).toNatClampNeg))) → ((((σ) (100 + j) 5) = 0 → (q_X8_counts_34 n c j post) (σ)) ∧ (¬ (((σ) (100 + j) 5) = 0) → (q_X8_counts_30 n c j post) (σ))))))))
abbrev rm_X8_counts : Room := { frames := 0, cells := 0, slots := 0, locals := 0 }
abbrev wq_X8_counts : List Cond := Cond.code yX8_counts cX8_counts 2 (some .boolean) :: wALL
set_option maxHeartbeats 4000000 in
set_option maxRecDepth 100000 in
theorem c_X8_counts (l : Launch) (D : va_G) (k ad g : Nat → Nat) (hg : gok g) {j : Nat} (hj : j < g 0) {sz : Nat} {σ : Mem} {post : Int32 → Mem → Prop} (hp : q_X8_counts (g 0) (g 2) j post σ) : Met l yX8_counts wq_X8_counts rm_X8_counts (va_Pc [.ref (ad 0), .ref (ad (100 + j))] (Pw D k (WM k ad g (σ)) sz)) (va_Qi post (fun u => Bw D (WM k ad g (σ)) sz (WM k ad g u)) (va_A (WM k ad g (σ)) sz)) 0 0 (va_A (WM k ad g (σ)) sz) := by
  refine fw_i (wf := fun u : Mem => WM k ad g u) (by decide) rfl (Nat.le_of_ble_eq_true rfl) ?_
  intro p e s m args below meth c A Q ls hC hP hD hl hret
  obtain ⟨⟨hx, hb, hml, hown, hts⟩, hG, hA⟩ := id hC
  have hK := hG.1
  have hS : va_S A s.heap s.heap [] := va_S.rf
  have hin_X7 : ∀ w ∈ u_ws RX7 TX7 7, w ∈ wq_X8_counts := fun w h => List.mem_cons_of_mem _ (iU_X7 w h)
  have hin_X8 : ∀ w ∈ u_ws RX8 TX8 15, w ∈ wq_X8_counts := fun w h => List.mem_cons_of_mem _ (iU_X8 w h)
  have hf_9 := hts _ (List.mem_cons_of_mem _ A_579)
  have hl : lv_has ls 2 [(0, .ref (ad 0)), (1, .ref (ad (100 + j)))] := hl
  have hown : s.vm.findClass RX8 = some m.cls := hown
  unfold q_X8_counts at hp
  have B_35 : ∀ (s0 : Int32) (σ : Mem) (H : Heap) (locs : List Loc) (ls : Array Slot), va_P D vwCl (WM k ad g (σ)) H → va_D A (WM k ad g (σ)) → va_S A s.heap H locs → lv_has ls 2 [] → (q_X8_counts_35 (g 0) (g 2) j post) s0 σ → W p l e rm_X8_counts s m args below meth c H locs 0 0 Q (F0 m 35 ls [.int s0]) := by
    intro s0 σ H locs ls hP hD hS hl hp
    unfold q_X8_counts_35 at hp
    exact hret s0 (σ) _ _ _ _ _ _ dX8_counts_35 hp.1.1 hP hD hS (Nat.le_of_ble_eq_true rfl) (Nat.le_of_ble_eq_true rfl) hp.2
  have B_34 : ∀  (σ : Mem) (H : Heap) (locs : List Loc) (ls : Array Slot), va_P D vwCl (WM k ad g (σ)) H → va_D A (WM k ad g (σ)) → va_S A s.heap H locs → lv_has ls 2 [] → (q_X8_counts_34 (g 0) (g 2) j post)  σ → W p l e rm_X8_counts s m args below meth c H locs 0 0 Q (F0 m 34 ls []) := by
    intro  σ H locs ls hP hD hS hl hp
    unfold q_X8_counts_34 at hp
    refine lv_iconst (v := 0) hx hb dX8_counts_34 (by decide) ?_
    exact B_35 0 (σ) _ _ _  hP hD hS (lv_sub hl [] rfl) hp
  have B_30 : ∀  (σ : Mem) (H : Heap) (locs : List Loc) (ls : Array Slot), va_P D vwCl (WM k ad g (σ)) H → va_D A (WM k ad g (σ)) → va_S A s.heap H locs → lv_has ls 2 [] → (q_X8_counts_30 (g 0) (g 2) j post)  σ → W p l e rm_X8_counts s m args below meth c H locs 0 0 Q (F0 m 30 ls []) := by
    intro  σ H locs ls hP hD hS hl hp
    unfold q_X8_counts_30 at hp
    refine lv_iconst (v := 1) hx hb dX8_counts_30 (by decide) ?_
    refine lv_goto (tgt := 35) hx hb dX8_counts_31 (by decide) ?_
    exact B_35 1 (σ) _ _ _  hP hD hS (lv_sub hl [] rfl) hp
  refine lv_aload_n hx hb dX8_counts_0 rfl (lv_at hl 1 rfl) ?_
  refine va_getN (D := D) (ci := 11) (C := RX7) (T := TX7) (N := 7) hx hb hts hin_X7 hown hK hP (lnP g j) (WM_ln k ad g (σ) hj) rfl 6 (by decide) (va_Nw.use rfl (GG.nf hG (q := (RX8, 56, "MeetjoinModel$Line", "isWithdrawn", "Z", "MeetjoinModel")) 2 rfl)) (fun _ h9 => h9) rfl dX8_counts_1 ?_
  refine lv_if_ne (tgt := 34) hx hb dX8_counts_4 (by decide) (fun c1 => ?_) (fun c1 => ?_)
  · have hp := hp.1 c1
    exact B_34  (σ) _ _ _  hP hD hS (lv_sub hl [] rfl) hp
  · have hp := hp.2 c1
    refine lv_aload_n hx hb dX8_counts_7 rfl (lv_at hl 1 rfl) ?_
    refine va_getN (D := D) (ci := 11) (C := RX7) (T := TX7) (N := 7) hx hb hts hin_X7 hown hK hP (lnP g j) (WM_ln k ad g (σ) hj) rfl 1 (by decide) (va_Nw.use rfl (GG.nf hG (q := (RX8, 62, "MeetjoinModel$Line", "team", "I", "MeetjoinModel")) 3 rfl)) (fun _ h9 => h9) rfl dX8_counts_8 ?_
    refine lv_aload_n hx hb dX8_counts_11 rfl (lv_at hl 0 rfl) ?_
    refine va_get (D := D) (ci := 12) (C := RX8) (T := TX8) (N := 15) hx hb hts hin_X8 hown hK hP 0 rfl rfl 1 (by decide) hf_9 (fun _ h9 => h9) rfl dX8_counts_12 ?_
    refine lv_aload_n hx hb dX8_counts_15 rfl (lv_at hl 1 rfl) ?_
    refine va_getN (D := D) (ci := 11) (C := RX7) (T := TX7) (N := 7) hx hb hts hin_X7 hown hK hP (lnP g j) (WM_ln k ad g (σ) hj) rfl 2 (by decide) (va_Nw.use rfl (GG.nf hG (q := (RX8, 65, "MeetjoinModel$Line", "field", "I", "MeetjoinModel")) 4 rfl)) (fun _ h9 => h9) rfl dX8_counts_16 ?_
    obtain ⟨h2, hp⟩ := hp
    refine va_iald hx hb hK hP 1 0 rfl rfl h2 dX8_counts_19 ?_
    refine lv_icmp_eq (tgt := 30) hx hb dX8_counts_20 (by decide) (fun c3 => ?_) (fun c3 => ?_)
    · have hp := hp.1 c3
      exact B_30  (σ) _ _ _  hP hD hS (lv_sub hl [] rfl) hp
    · have hp := hp.2 c3
      refine lv_aload_n hx hb dX8_counts_23 rfl (lv_at hl 1 rfl) ?_
      refine va_getN (D := D) (ci := 11) (C := RX7) (T := TX7) (N := 7) hx hb hts hin_X7 hown hK hP (lnP g j) (WM_ln k ad g (σ) hj) rfl 5 (by decide) (va_Nw.use rfl (GG.nf hG (q := (RX8, 68, "MeetjoinModel$Line", "isApproved", "Z", "MeetjoinModel")) 5 rfl)) (fun _ h9 => h9) rfl dX8_counts_24 ?_
      refine lv_if_eq (tgt := 34) hx hb dX8_counts_27 (by decide) (fun c4 => ?_) (fun c4 => ?_)
      · have hp := hp.1 c4
        exact B_34  (σ) _ _ _  hP hD hS (lv_sub hl [] rfl) hp
      · have hp := hp.2 c4
        exact B_30  (σ) _ _ _  hP hD hS (lv_sub hl [] rfl) hp
def q_X8_counting_67 (n : Nat) (c : Nat) (post : Int32 → Mem → Prop)  (x1 : Int32) (σ : Mem) : Prop := post x1 (σ)
def q_X8_counting_59 (n : Nat) (c : Nat) (post : Int32 → Mem → Prop) (kE_67 : Int32 → Mem → Prop) (kc_4 : Int32 → Int32 → Mem → Prop) (s0 : Int32) (s1 : Int32) (x2 : Int32) (σ : Mem) : Prop := (∀ v3001 : Int32, v3001 = (s1 ||| s0) → (∀ v3002 : Int32, v3002 = x2 + 1 → kc_4 v3001 v3002 (σ)))
def q_X8_counting_58 (n : Nat) (c : Nat) (post : Int32 → Mem → Prop) (kE_67 : Int32 → Mem → Prop) (kc_4 : Int32 → Int32 → Mem → Prop) (s0 : Int32) (x2 : Int32) (σ : Mem) : Prop := (q_X8_counting_59 n c post kE_67 kc_4) 0 s0 x2 (σ)
def q_X8_counting_4 (n : Nat) (c : Nat) (post : Int32 → Mem → Prop) (kE_67 : Int32 → Mem → Prop) (kc_4 : Int32 → Int32 → Mem → Prop) (x1 : Int32) (x2 : Int32) (σ : Mem) : Prop := (((nI n) ≤ x2 → kE_67 x1 (σ)) ∧ (¬ ((nI n) ≤ x2) → (∃ j1002 : Nat, (j1002 < n ∧ x2 = nI j1002) ∧ (q_X8_counts n c j1002 (fun (r1003 : Int32) (σ1004 : Mem) => ((r1003 = 0 → (q_X8_counting_58 n c post kE_67 kc_4) x1 x2 (σ1004)) ∧ (¬ (r1003 = 0) → (∃ j1006 : Nat, (j1006 < n ∧ x2 = nI j1006) ∧ ((5 ≤ ((σ1004) (100 + j1006) 0) → (q_X8_counting_58 n c post kE_67 kc_4) x1 x2 (σ1004)) ∧ (¬ (5 ≤ ((σ1004) (100 + j1006) 0)) → (q_X8_counting_59 n c post kE_67 kc_4) ((1 : Int32) <<< (x2 &&& 31)) x1 x2 (σ1004))))))) (σ)))))
def q_X8_counting (n : Nat) (c : Nat) (post : Int32 → Mem → Prop) (σ : Mem) : Prop := (∃ n9 : Nat, lp_3 (q_X8_counting_4 n c post (q_X8_counting_67 n c post)) n9 0 0 (σ))
abbrev rm_X8_counting : Room := { frames := 4, cells := 0, slots := 0, locals := 260 }
abbrev wq_X8_counting : List Cond := Cond.code yX8_counting cX8_counting 3 (some .int) :: wALL
set_option maxHeartbeats 4000000 in
set_option maxRecDepth 100000 in
theorem c_X8_counting (l : Launch) (D : va_G) (k ad g : Nat → Nat) (hg : gok g) {sz : Nat} {σ : Mem} {post : Int32 → Mem → Prop} (hp : q_X8_counting (g 0) (g 2) post σ) : Met l yX8_counting wq_X8_counting rm_X8_counting (va_Pc [.ref (ad 0)] (Pw D k (WM k ad g (σ)) sz)) (va_Qi post (fun u => Bw D (WM k ad g (σ)) sz (WM k ad g u)) (va_A (WM k ad g (σ)) sz)) 0 0 (va_A (WM k ad g (σ)) sz) := by
  refine fw_i (wf := fun u : Mem => WM k ad g u) (by decide) rfl (Nat.le_of_ble_eq_true rfl) ?_
  intro p e s m args below meth c A Q ls hC hP hD hl hret
  obtain ⟨⟨hx, hb, hml, hown, hts⟩, hG, hA⟩ := id hC
  have hK := hG.1
  have hS : va_S A s.heap s.heap [] := va_S.rf
  have hin_X8 : ∀ w ∈ u_ws RX8 TX8 15, w ∈ wq_X8_counting := fun w h => List.mem_cons_of_mem _ (iU_X8 w h)
  have hf_19 := hts _ (List.mem_cons_of_mem _ A_584)
  have hin_X7 : ∀ w ∈ u_ws RX7 TX7 7, w ∈ wq_X8_counting := fun w h => List.mem_cons_of_mem _ (iU_X7 w h)
  have hl : lv_has ls 3 [(0, .ref (ad 0))] := hl
  have hown : s.vm.findClass RX8 = some m.cls := hown
  unfold q_X8_counting at hp
  have B_67 : ∀ (x1 : Int32) (σ : Mem) (H : Heap) (locs : List Loc) (ls : Array Slot), va_P D vwCl (WM k ad g (σ)) H → va_D A (WM k ad g (σ)) → va_S A s.heap H locs → lv_has ls 3 [(1, .int x1)] → (q_X8_counting_67 (g 0) (g 2) post) x1 σ → W p l e rm_X8_counting s m args below meth c H locs 0 0 Q (F0 m 67 ls []) := by
    intro x1 σ H locs ls hP hD hS hl hp
    unfold q_X8_counting_67 at hp
    refine lv_iload_n hx hb dX8_counting_67 rfl (lv_at hl 0 rfl) ?_
    exact hret x1 (σ) _ _ _ _ _ _ dX8_counting_68 rfl hP hD hS (Nat.le_of_ble_eq_true rfl) (Nat.le_of_ble_eq_true rfl) hp
  have B_4 : ∀ (n_4 : Nat) (x1 : Int32) (x2 : Int32) (σ : Mem) (H : Heap) (locs : List Loc) (ls : Array Slot), va_P D vwCl (WM k ad g (σ)) H → va_D A (WM k ad g (σ)) → va_S A s.heap H locs → lv_has ls 3 [(0, .ref (ad 0)), (1, .int x1), (2, .int x2)] → lp_3 (q_X8_counting_4 (g 0) (g 2) post (q_X8_counting_67 (g 0) (g 2) post)) n_4 x1 x2 σ → W p l e rm_X8_counting s m args below meth c H locs 0 0 Q (F0 m 4 ls []) := by
    intro n_4
    induction n_4 with
    | zero => intro x1 x2 σ H locs ls hP hD hS hl hp; exact hp.elim
    | succ n_4 ih_4 =>
      have B_59 : ∀ (s0 : Int32) (s1 : Int32) (x2 : Int32) (σ : Mem) (H : Heap) (locs : List Loc) (ls : Array Slot), va_P D vwCl (WM k ad g (σ)) H → va_D A (WM k ad g (σ)) → va_S A s.heap H locs → lv_has ls 3 [(0, .ref (ad 0)), (2, .int x2)] → (q_X8_counting_59 (g 0) (g 2) post (q_X8_counting_67 (g 0) (g 2) post) (lp_3 (q_X8_counting_4 (g 0) (g 2) post (q_X8_counting_67 (g 0) (g 2) post)) n_4)) s0 s1 x2 σ → W p l e rm_X8_counting s m args below meth c H locs 0 0 Q (F0 m 59 ls [.int s0, .int s1]) := by
        intro s0 s1 x2 σ H locs ls hP hD hS hl hp
        unfold q_X8_counting_59 at hp
        refine lv_ior hx hb dX8_counting_59 ?_
        refine lv_topi (fun v30001 ev30001 => ?_)
        have hp := hp v30001 ev30001
        refine lv_istore_n (lv' := [(1, .int v30001), (0, .ref (ad 0)), (2, .int x2)]) hx hb dX8_counting_60 rfl hl (by decide) rfl (fun ls hl => ?_)
        obtain ⟨v30002, ev30002⟩ : ∃ z : Int32, z = x2 + 1 := ⟨_, rfl⟩
        have hp := hp v30002 ev30002
        refine lv_iinc (v := v30002) (lv' := [(2, .int v30002), (1, .int v30001), (0, .ref (ad 0))]) hx hb dX8_counting_61 hl (k := 2) rfl (by rw [ev30002]; rfl) (by decide) rfl (fun ls hl => ?_)
        refine lv_goto (tgt := 4) hx hb dX8_counting_64 (by decide) ?_
        exact ih_4 v30001 v30002 (σ) _ _ _  hP hD hS (lv_sub hl [2, 1, 0] rfl) hp
      have B_58 : ∀ (s0 : Int32) (x2 : Int32) (σ : Mem) (H : Heap) (locs : List Loc) (ls : Array Slot), va_P D vwCl (WM k ad g (σ)) H → va_D A (WM k ad g (σ)) → va_S A s.heap H locs → lv_has ls 3 [(0, .ref (ad 0)), (2, .int x2)] → (q_X8_counting_58 (g 0) (g 2) post (q_X8_counting_67 (g 0) (g 2) post) (lp_3 (q_X8_counting_4 (g 0) (g 2) post (q_X8_counting_67 (g 0) (g 2) post)) n_4)) s0 x2 σ → W p l e rm_X8_counting s m args below meth c H locs 0 0 Q (F0 m 58 ls [.int s0]) := by
        intro s0 x2 σ H locs ls hP hD hS hl hp
        unfold q_X8_counting_58 at hp
        refine lv_iconst (v := 0) hx hb dX8_counting_58 (by decide) ?_
        exact B_59 0 s0 x2 (σ) _ _ _  hP hD hS (lv_sub hl [0, 1] rfl) hp
      intro x1 x2 σ H locs ls hP hD hS hl hp
      have hp : q_X8_counting_4 (g 0) (g 2) post (q_X8_counting_67 (g 0) (g 2) post) (lp_3 (q_X8_counting_4 (g 0) (g 2) post (q_X8_counting_67 (g 0) (g 2) post)) n_4) x1 x2 σ := hp
      unfold q_X8_counting_4 at hp
      refine lv_iload_n hx hb dX8_counting_4 rfl (lv_at hl 2 rfl) ?_
      refine lv_aload_n hx hb dX8_counting_5 rfl (lv_at hl 0 rfl) ?_
      refine va_get (D := D) (ci := 12) (C := RX8) (T := TX8) (N := 15) hx hb hts hin_X8 hown hK hP 0 rfl rfl 4 (by decide) hf_19 (fun _ h9 => h9) rfl dX8_counting_6 ?_
      refine wm_size_line (rest := [.int x2]) hC (gA_V (a := Cond.code yX8_counting cX8_counting 3 (some .int)) A_605 A_606 A_607 A_583 A_602) hl.1 rfl (Nat.le_of_ble_eq_true rfl) (Nat.le_of_ble_eq_true rfl) (Nat.le_of_ble_eq_true rfl) dX8_counting_9 ⟨Nat.le_of_ble_eq_true rfl, Nat.le_of_ble_eq_true rfl⟩ hP hD hS (fun H locs hP hD hS => ?_)
      refine lv_icmp_ge (tgt := 67) hx hb dX8_counting_12 (by decide) (fun c10001 => ?_) (fun c10001 => ?_)
      · have hp := hp.1 c10001
        exact B_67 x1 (σ) _ _ _  hP hD hS (lv_sub hl [1] rfl) hp
      · have hp := hp.2 c10001
        refine lv_iload_n hx hb dX8_counting_15 rfl (lv_at hl 1 rfl) ?_
        refine lv_aload_n hx hb dX8_counting_16 rfl (lv_at hl 0 rfl) ?_
        refine lv_aload_n hx hb dX8_counting_17 rfl (lv_at hl 0 rfl) ?_
        refine va_get (D := D) (ci := 12) (C := RX8) (T := TX8) (N := 15) hx hb hts hin_X8 hown hK hP 0 rfl rfl 4 (by decide) hf_19 (fun _ h9 => h9) rfl dX8_counting_18 ?_
        refine lv_iload_n hx hb dX8_counting_21 rfl (lv_at hl 2 rfl) ?_
        obtain ⟨j10002, ⟨hj10002, ej10002⟩, hp⟩ := hp
        refine wm_get_line (rest := [.ref (ad 0), .int x1]) hC hg hj10002 ej10002 (gA_V (a := Cond.code yX8_counting cX8_counting 3 (some .int)) A_621 A_622 A_623 A_583 A_613) hl.1 rfl (Nat.le_of_ble_eq_true rfl) (Nat.le_of_ble_eq_true rfl) (Nat.le_of_ble_eq_true rfl) dX8_counting_22 ⟨Nat.le_of_ble_eq_true rfl, Nat.le_of_ble_eq_true rfl⟩ hP hD hS (fun H locs hP hD hS => ?_)
        refine va_castS hx hb hown (hts _ (List.mem_cons_of_mem _ A_662)) (hK.1 11 _ rfl).2 (va_recv hK hP (ci := 11) (q0 := lnP g j10002) rfl (WM_ln k ad g (σ) hj10002)) dX8_counting_25 ?_
        refine fw_ciV (As := [.ref (ad (100 + j10002))]) (rest := [.int x1]) hC (c_X8_counts l D k ad g hg hj10002 hp) (cwV 1 hts (gA_V A_624 A_625 A_626 A_601 A_609) rfl rfl rfl (by decide +kernel) ⟨Nat.le_of_ble_eq_true rfl, Nat.le_of_ble_eq_true rfl⟩) (va_recv hK hP (ci := 12) (q0 := 0) rfl rfl) rfl hl.1 rfl (Nat.le_of_ble_eq_true rfl) dX8_counting_28 ⟨Nat.le_of_ble_eq_true rfl, Nat.le_of_ble_eq_true rfl⟩ hP hD hS Jn.same (fun r10003 σ10004 H locs hP hD hS hp => ?_)
        have hP : va_P D vwCl (WM k ad g (σ10004)) H := hP
        have hD : va_D A (WM k ad g (σ10004)) := hD
        refine lv_if_eq (tgt := 58) hx hb dX8_counting_31 (by decide) (fun c10005 => ?_) (fun c10005 => ?_)
        · have hp := hp.1 c10005
          exact B_58 x1 x2 (σ10004) _ _ _  hP hD hS (lv_sub hl [0, 2] rfl) hp
        · have hp := hp.2 c10005
          refine lv_aload_n hx hb dX8_counting_34 rfl (lv_at hl 0 rfl) ?_
          refine va_get (D := D) (ci := 12) (C := RX8) (T := TX8) (N := 15) hx hb hts hin_X8 hown hK hP 0 rfl rfl 4 (by decide) hf_19 (fun _ h9 => h9) rfl dX8_counting_35 ?_
          refine lv_iload_n hx hb dX8_counting_38 rfl (lv_at hl 2 rfl) ?_
          obtain ⟨j10006, ⟨hj10006, ej10006⟩, hp⟩ := hp
          refine wm_get_line (rest := [.int x1]) hC hg hj10006 ej10006 (gA_V (a := Cond.code yX8_counting cX8_counting 3 (some .int)) A_621 A_622 A_623 A_583 A_613) hl.1 rfl (Nat.le_of_ble_eq_true rfl) (Nat.le_of_ble_eq_true rfl) (Nat.le_of_ble_eq_true rfl) dX8_counting_39 ⟨Nat.le_of_ble_eq_true rfl, Nat.le_of_ble_eq_true rfl⟩ hP hD hS (fun H locs hP hD hS => ?_)
          refine va_castS hx hb hown (hts _ (List.mem_cons_of_mem _ A_662)) (hK.1 11 _ rfl).2 (va_recv hK hP (ci := 11) (q0 := lnP g j10006) rfl (WM_ln k ad g (σ10004) hj10006)) dX8_counting_42 ?_
          refine va_getN (D := D) (ci := 11) (C := RX7) (T := TX7) (N := 7) hx hb hts hin_X7 hown hK hP (lnP g j10006) (WM_ln k ad g (σ10004) hj10006) rfl 0 (by decide) (va_Nw.use rfl (GG.nf hG (q := (RX8, 79, "MeetjoinModel$Line", "kind", "I", "MeetjoinModel")) 6 rfl)) (fun _ h9 => h9) rfl dX8_counting_45 ?_
          refine lv_iconst (v := 5) hx hb dX8_counting_48 (by decide) ?_
          refine lv_icmp_ge (tgt := 58) hx hb dX8_counting_49 (by decide) (fun c10007 => ?_) (fun c10007 => ?_)
          · have hp := hp.1 c10007
            exact B_58 x1 x2 (σ10004) _ _ _  hP hD hS (lv_sub hl [0, 2] rfl) hp
          · have hp := hp.2 c10007
            refine lv_iconst (v := 1) hx hb dX8_counting_52 (by decide) ?_
            refine lv_iload_n hx hb dX8_counting_53 rfl (lv_at hl 2 rfl) ?_
            refine lv_ishl hx hb dX8_counting_54 ?_
            refine lv_goto (tgt := 59) hx hb dX8_counting_55 (by decide) ?_
            exact B_59 ((1 : Int32) <<< (x2 &&& 31)) x1 x2 (σ10004) _ _ _  hP hD hS (lv_sub hl [0, 2] rfl) hp
  refine lv_iconst (v := 0) hx hb dX8_counting_0 (by decide) ?_
  refine lv_istore_n (lv' := [(1, .int 0), (0, .ref (ad 0))]) hx hb dX8_counting_1 rfl hl (by decide) rfl (fun ls hl => ?_)
  refine lv_iconst (v := 0) hx hb dX8_counting_2 (by decide) ?_
  refine lv_istore_n (lv' := [(2, .int 0), (1, .int 0), (0, .ref (ad 0))]) hx hb dX8_counting_3 rfl hl (by decide) rfl (fun ls hl => ?_)
  obtain ⟨n9, hp⟩ := hp
  exact B_4 n9 0 0 (σ) _ _ _  hP hD hS (lv_sub hl [2, 1, 0] rfl) hp
