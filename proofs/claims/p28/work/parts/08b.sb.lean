def q_J1_canEncode_fc78d_12  (post : Int32 → Mem → Prop)  (s0 : Int32) (σ : Mem) : Prop := (bz s0 ∧ post s0 (σ))
def q_J1_canEncode_fc78d  (post : Int32 → Mem → Prop) (p1 : Int32) (σ : Mem) : Prop := ((255 < p1 → (q_J1_canEncode_fc78d_12 post) 0 (σ)) ∧ (¬ (255 < p1) → (q_J1_canEncode_fc78d_12 post) 1 (σ)))
abbrev rm_J1_canEncode_fc78d : Room := { frames := 0, cells := 0, slots := 0, locals := 0 }
abbrev wq_J1_canEncode_fc78d : List Cond := Cond.code yJ1_canEncode_fc78d cJ1_canEncode_fc78d 1 (some .boolean) :: wALL
set_option maxHeartbeats 4000000 in
set_option maxRecDepth 100000 in
theorem c_J1_canEncode_fc78d (l : Launch) (D : va_G) (k : Nat → Nat) {sz : Nat} {σ : Mem} {p1 : Int32} {post : Int32 → Mem → Prop} (hp : q_J1_canEncode_fc78d post p1 σ) : Met l yJ1_canEncode_fc78d wq_J1_canEncode_fc78d rm_J1_canEncode_fc78d (va_Pc [.int p1] (Pw D k ([]) sz)) (va_Qi post (fun u => Bw D ([]) sz ([])) (va_A [] sz)) 0 0 (va_A [] sz) := by
  refine fw_i (wf := fun u : Mem => []) (by decide) rfl (Nat.le_of_ble_eq_true rfl) ?_
  intro p e s m args below meth c A Q ls hC hP hD hl hret
  obtain ⟨⟨hx, hb, hml, hown, hts⟩, hG, hA⟩ := id hC
  have hK := hG.1
  have hS : va_S A s.heap s.heap [] := va_S.rf
  have hl : lv_has ls 1 [(0, .int p1)] := hl
  have hown : s.vm.findClass RJ1 = some m.cls := hown
  unfold q_J1_canEncode_fc78d at hp
  have B_12 : ∀ (s0 : Int32) (σ : Mem) (H : Heap) (locs : List Loc) (ls : Array Slot), va_P D vwCl ([]) H → va_D A ([]) → va_S A s.heap H locs → lv_has ls 1 [] → (q_J1_canEncode_fc78d_12 post) s0 σ → W p l e rm_J1_canEncode_fc78d s m args below meth c H locs 0 0 Q (F0 m 12 ls [.int s0]) := by
    intro s0 σ H locs ls hP hD hS hl hp
    unfold q_J1_canEncode_fc78d_12 at hp
    exact hret s0 (σ) _ _ _ _ _ _ dJ1_canEncode_fc78d_12 hp.1.1 hP hD hS (Nat.le_of_ble_eq_true rfl) (Nat.le_of_ble_eq_true rfl) hp.2
  refine lv_iload_n hx hb dJ1_canEncode_fc78d_0 rfl (lv_at hl 0 rfl) ?_
  refine lv_sipush (v := 255) hx hb dJ1_canEncode_fc78d_1 (by decide) ?_
  refine lv_icmp_gt (tgt := 11) hx hb dJ1_canEncode_fc78d_4 (by decide) (fun c1 => ?_) (fun c1 => ?_)
  · have hp := hp.1 c1
    refine lv_iconst (v := 0) hx hb dJ1_canEncode_fc78d_11 (by decide) ?_
    exact B_12 0 (σ) _ _ _  hP hD hS (lv_sub hl [] rfl) hp
  · have hp := hp.2 c1
    refine lv_iconst (v := 1) hx hb dJ1_canEncode_fc78d_7 (by decide) ?_
    refine lv_goto (tgt := 12) hx hb dJ1_canEncode_fc78d_8 (by decide) ?_
    exact B_12 1 (σ) _ _ _  hP hD hS (lv_sub hl [] rfl) hp
def q_J6_stringSize_0f7a4_42  (post : Int32 → Mem → Prop)  (x1 : Int32) (σ : Mem) : Prop := post ((10 : Int32) + x1) (σ)
def q_J6_stringSize_0f7a4_27  (post : Int32 → Mem → Prop)  (x1 : Int32) (x3 : Int32) (σ : Mem) : Prop := post (x3 + x1) (σ)
def q_J6_stringSize_0f7a4_16  (post : Int32 → Mem → Prop) (kE_27 : Int32 → Int32 → Mem → Prop) (kE_42 : Int32 → Mem → Prop) (kc_16 : Int32 → Int32 → Int32 → Int32 → Mem → Prop) (x0 : Int32) (x1 : Int32) (x2 : Int32) (x3 : Int32) (σ : Mem) : Prop := ((10 ≤ x3 → kE_42 x1 (σ)) ∧ (¬ (10 ≤ x3) → ((x0 ≤ x2 → (∀ v2003 : Int32, v2003 = ((10 : Int32) * x2) → (∀ v2004 : Int32, v2004 = x3 + 1 → kc_16 x0 x1 v2003 v2004 (σ)))) ∧ (¬ (x0 ≤ x2) → kE_27 x1 x3 (σ)))))
def q_J6_stringSize_0f7a4_11  (post : Int32 → Mem → Prop)  (x0 : Int32) (x1 : Int32) (σ : Mem) : Prop := (∃ n9 : Nat, lp_5 (q_J6_stringSize_0f7a4_16 post (q_J6_stringSize_0f7a4_27 post) (q_J6_stringSize_0f7a4_42 post)) n9 x0 x1 (-10) 1 (σ))
def q_J6_stringSize_0f7a4  (post : Int32 → Mem → Prop) (p1 : Int32) (σ : Mem) : Prop := ((p1 < 0 → (q_J6_stringSize_0f7a4_11 post) p1 1 (σ)) ∧ (¬ (p1 < 0) → (∀ v2 : Int32, v2 = (-p1) → (q_J6_stringSize_0f7a4_11 post) v2 0 (σ))))
abbrev rm_J6_stringSize_0f7a4 : Room := { frames := 0, cells := 0, slots := 0, locals := 0 }
abbrev wq_J6_stringSize_0f7a4 : List Cond := Cond.code yJ6_stringSize_0f7a4 cJ6_stringSize_0f7a4 4 (some .int) :: wALL
set_option maxHeartbeats 4000000 in
set_option maxRecDepth 100000 in
theorem c_J6_stringSize_0f7a4 (l : Launch) (D : va_G) (k : Nat → Nat) {sz : Nat} {σ : Mem} {p1 : Int32} {post : Int32 → Mem → Prop} (hp : q_J6_stringSize_0f7a4 post p1 σ) : Met l yJ6_stringSize_0f7a4 wq_J6_stringSize_0f7a4 rm_J6_stringSize_0f7a4 (va_Pc [.int p1] (Pw D k ([]) sz)) (va_Qi post (fun u => Bw D ([]) sz ([])) (va_A [] sz)) 0 0 (va_A [] sz) := by
  refine fw_i (wf := fun u : Mem => []) (by decide) rfl (Nat.le_of_ble_eq_true rfl) ?_
  intro p e s m args below meth c A Q ls hC hP hD hl hret
  obtain ⟨⟨hx, hb, hml, hown, hts⟩, hG, hA⟩ := id hC
  have hK := hG.1
  have hS : va_S A s.heap s.heap [] := va_S.rf
  have hl : lv_has ls 4 [(0, .int p1)] := hl
  have hown : s.vm.findClass RJ6 = some m.cls := hown
  unfold q_J6_stringSize_0f7a4 at hp
  have B_42 : ∀ (x1 : Int32) (σ : Mem) (H : Heap) (locs : List Loc) (ls : Array Slot), va_P D vwCl ([]) H → va_D A ([]) → va_S A s.heap H locs → lv_has ls 4 [(1, .int x1)] → (q_J6_stringSize_0f7a4_42 post) x1 σ → W p l e rm_J6_stringSize_0f7a4 s m args below meth c H locs 0 0 Q (F0 m 42 ls []) := by
    intro x1 σ H locs ls hP hD hS hl hp
    unfold q_J6_stringSize_0f7a4_42 at hp
    refine lv_bipush (v := 10) hx hb dJ6_stringSize_0f7a4_42 (by decide) ?_
    refine lv_iload_n hx hb dJ6_stringSize_0f7a4_44 rfl (lv_at hl 0 rfl) ?_
    refine lv_iadd hx hb dJ6_stringSize_0f7a4_45 ?_
    exact hret ((10 : Int32) + x1) (σ) _ _ _ _ _ _ dJ6_stringSize_0f7a4_46 rfl hP hD hS (Nat.le_of_ble_eq_true rfl) (Nat.le_of_ble_eq_true rfl) hp
  have B_27 : ∀ (x1 : Int32) (x3 : Int32) (σ : Mem) (H : Heap) (locs : List Loc) (ls : Array Slot), va_P D vwCl ([]) H → va_D A ([]) → va_S A s.heap H locs → lv_has ls 4 [(1, .int x1), (3, .int x3)] → (q_J6_stringSize_0f7a4_27 post) x1 x3 σ → W p l e rm_J6_stringSize_0f7a4 s m args below meth c H locs 0 0 Q (F0 m 27 ls []) := by
    intro x1 x3 σ H locs ls hP hD hS hl hp
    unfold q_J6_stringSize_0f7a4_27 at hp
    refine lv_iload_n hx hb dJ6_stringSize_0f7a4_27 rfl (lv_at hl 1 rfl) ?_
    refine lv_iload_n hx hb dJ6_stringSize_0f7a4_28 rfl (lv_at hl 0 rfl) ?_
    refine lv_iadd hx hb dJ6_stringSize_0f7a4_29 ?_
    exact hret (x3 + x1) (σ) _ _ _ _ _ _ dJ6_stringSize_0f7a4_30 rfl hP hD hS (Nat.le_of_ble_eq_true rfl) (Nat.le_of_ble_eq_true rfl) hp
  have B_16 : ∀ (n_16 : Nat) (x0 : Int32) (x1 : Int32) (x2 : Int32) (x3 : Int32) (σ : Mem) (H : Heap) (locs : List Loc) (ls : Array Slot), va_P D vwCl ([]) H → va_D A ([]) → va_S A s.heap H locs → lv_has ls 4 [(0, .int x0), (1, .int x1), (2, .int x2), (3, .int x3)] → lp_5 (q_J6_stringSize_0f7a4_16 post (q_J6_stringSize_0f7a4_27 post) (q_J6_stringSize_0f7a4_42 post)) n_16 x0 x1 x2 x3 σ → W p l e rm_J6_stringSize_0f7a4 s m args below meth c H locs 0 0 Q (F0 m 16 ls []) := by
    intro n_16
    induction n_16 with
    | zero => intro x0 x1 x2 x3 σ H locs ls hP hD hS hl hp; exact hp.elim
    | succ n_16 ih_16 =>
      intro x0 x1 x2 x3 σ H locs ls hP hD hS hl hp
      have hp : q_J6_stringSize_0f7a4_16 post (q_J6_stringSize_0f7a4_27 post) (q_J6_stringSize_0f7a4_42 post) (lp_5 (q_J6_stringSize_0f7a4_16 post (q_J6_stringSize_0f7a4_27 post) (q_J6_stringSize_0f7a4_42 post)) n_16) x0 x1 x2 x3 σ := hp
      unfold q_J6_stringSize_0f7a4_16 at hp
      refine lv_iload_n hx hb dJ6_stringSize_0f7a4_16 rfl (lv_at hl 3 rfl) ?_
      refine lv_bipush (v := 10) hx hb dJ6_stringSize_0f7a4_17 (by decide) ?_
      refine lv_icmp_ge (tgt := 42) hx hb dJ6_stringSize_0f7a4_19 (by decide) (fun c20001 => ?_) (fun c20001 => ?_)
      · have hp := hp.1 c20001
        exact B_42 x1 (σ) _ _ _  hP hD hS (lv_sub hl [1] rfl) hp
      · have hp := hp.2 c20001
        refine lv_iload_n hx hb dJ6_stringSize_0f7a4_22 rfl (lv_at hl 0 rfl) ?_
        refine lv_iload_n hx hb dJ6_stringSize_0f7a4_23 rfl (lv_at hl 2 rfl) ?_
        refine lv_icmp_le (tgt := 31) hx hb dJ6_stringSize_0f7a4_24 (by decide) (fun c20002 => ?_) (fun c20002 => ?_)
        · have hp := hp.1 c20002
          refine lv_bipush (v := 10) hx hb dJ6_stringSize_0f7a4_31 (by decide) ?_
          refine lv_iload_n hx hb dJ6_stringSize_0f7a4_33 rfl (lv_at hl 2 rfl) ?_
          refine lv_imul hx hb dJ6_stringSize_0f7a4_34 ?_
          refine lv_topi (fun v20003 ev20003 => ?_)
          have hp := hp v20003 ev20003
          refine lv_istore_n (lv' := [(2, .int v20003), (0, .int x0), (1, .int x1), (3, .int x3)]) hx hb dJ6_stringSize_0f7a4_35 rfl hl (by decide) rfl (fun ls hl => ?_)
          obtain ⟨v20004, ev20004⟩ : ∃ z : Int32, z = x3 + 1 := ⟨_, rfl⟩
          have hp := hp v20004 ev20004
          refine lv_iinc (v := v20004) (lv' := [(3, .int v20004), (2, .int v20003), (0, .int x0), (1, .int x1)]) hx hb dJ6_stringSize_0f7a4_36 hl (k := 3) rfl (by rw [ev20004]; rfl) (by decide) rfl (fun ls hl => ?_)
          refine lv_goto (tgt := 16) hx hb dJ6_stringSize_0f7a4_39 (by decide) ?_
          exact ih_16 x0 x1 v20003 v20004 (σ) _ _ _  hP hD hS (lv_sub hl [2, 3, 1, 0] rfl) hp
        · have hp := hp.2 c20002
          exact B_27 x1 x3 (σ) _ _ _  hP hD hS (lv_sub hl [1, 3] rfl) hp
  have B_11 : ∀ (x0 : Int32) (x1 : Int32) (σ : Mem) (H : Heap) (locs : List Loc) (ls : Array Slot), va_P D vwCl ([]) H → va_D A ([]) → va_S A s.heap H locs → lv_has ls 4 [(0, .int x0), (1, .int x1)] → (q_J6_stringSize_0f7a4_11 post) x0 x1 σ → W p l e rm_J6_stringSize_0f7a4 s m args below meth c H locs 0 0 Q (F0 m 11 ls []) := by
    intro x0 x1 σ H locs ls hP hD hS hl hp
    unfold q_J6_stringSize_0f7a4_11 at hp
    refine lv_bipush (v := (-10)) hx hb dJ6_stringSize_0f7a4_11 (by decide) ?_
    refine lv_istore_n (lv' := [(2, .int (-10)), (0, .int x0), (1, .int x1)]) hx hb dJ6_stringSize_0f7a4_13 rfl hl (by decide) rfl (fun ls hl => ?_)
    refine lv_iconst (v := 1) hx hb dJ6_stringSize_0f7a4_14 (by decide) ?_
    refine lv_istore_n (lv' := [(3, .int 1), (2, .int (-10)), (0, .int x0), (1, .int x1)]) hx hb dJ6_stringSize_0f7a4_15 rfl hl (by decide) rfl (fun ls hl => ?_)
    obtain ⟨n9, hp⟩ := hp
    exact B_16 n9 x0 x1 (-10) 1 (σ) _ _ _  hP hD hS (lv_sub hl [2, 3, 1, 0] rfl) hp
  refine lv_iconst (v := 1) hx hb dJ6_stringSize_0f7a4_0 (by decide) ?_
  refine lv_istore_n (lv' := [(1, .int 1), (0, .int p1)]) hx hb dJ6_stringSize_0f7a4_1 rfl hl (by decide) rfl (fun ls hl => ?_)
  refine lv_iload_n hx hb dJ6_stringSize_0f7a4_2 rfl (lv_at hl 1 rfl) ?_
  refine lv_if_lt (tgt := 11) hx hb dJ6_stringSize_0f7a4_3 (by decide) (fun c1 => ?_) (fun c1 => ?_)
  · have hp := hp.1 c1
    exact B_11 p1 1 (σ) _ _ _  hP hD hS (lv_sub hl [1, 0] rfl) hp
  · have hp := hp.2 c1
    refine lv_iconst (v := 0) hx hb dJ6_stringSize_0f7a4_6 (by decide) ?_
    refine lv_istore_n (lv' := [(1, .int 0), (0, .int p1)]) hx hb dJ6_stringSize_0f7a4_7 rfl hl (by decide) rfl (fun ls hl => ?_)
    refine lv_iload_n hx hb dJ6_stringSize_0f7a4_8 rfl (lv_at hl 1 rfl) ?_
    refine lv_ineg hx hb dJ6_stringSize_0f7a4_9 ?_
    refine lv_topi (fun v2 ev2 => ?_)
    have hp := hp v2 ev2
    refine lv_istore_n (lv' := [(0, .int v2), (1, .int 0)]) hx hb dJ6_stringSize_0f7a4_10 rfl hl (by decide) rfl (fun ls hl => ?_)
    exact B_11 v2 0 (σ) _ _ _  hP hD hS (lv_sub hl [0, 1] rfl) hp
def q_J5_isLatin1_aae02_18 (ad : Nat → Nat) (n : Nat) (post : Int32 → Mem → Prop)  (s0 : Int32) (σ : Mem) : Prop := (bz s0 ∧ post s0 (σ))
def q_J5_isLatin1_aae02_17 (ad : Nat → Nat) (n : Nat) (post : Int32 → Mem → Prop)  (σ : Mem) : Prop := (q_J5_isLatin1_aae02_18 ad n post) 0 (σ)
def q_J5_isLatin1_aae02 (ad : Nat → Nat) (n : Nat) (post : Int32 → Mem → Prop) (σ : Mem) : Prop := ((((σ) 0 1) ≠ 0 → (q_J5_isLatin1_aae02_17 ad n post) (σ)) ∧ (((σ) 0 1) = 0 → (q_J5_isLatin1_aae02_18 ad n post) 1 (σ)))
abbrev rm_J5_isLatin1_aae02 : Room := { frames := 0, cells := 0, slots := 0, locals := 0 }
abbrev wq_J5_isLatin1_aae02 : List Cond := Cond.code yJ5_isLatin1_aae02 cJ5_isLatin1_aae02 1 (some .boolean) :: wALL
set_option maxHeartbeats 4000000 in
set_option maxRecDepth 100000 in
theorem c_J5_isLatin1_aae02 (l : Launch) (D : va_G) (k ad : Nat → Nat) (n : Nat) {sz : Nat} {σ : Mem} {post : Int32 → Mem → Prop} (hp : q_J5_isLatin1_aae02 ad n post σ) : Met l yJ5_isLatin1_aae02 wq_J5_isLatin1_aae02 rm_J5_isLatin1_aae02 (va_Pc [.ref (ad 0)] (Pw D k (WB k ad n (σ)) sz)) (va_Qi post (fun u => Bw D (WB k ad n (σ)) sz (WB k ad n u)) (va_A (WB k ad n (σ)) sz)) 0 0 (va_A (WB k ad n (σ)) sz) := by
  refine fw_i (wf := fun u : Mem => WB k ad n u) (by decide) rfl (Nat.le_of_ble_eq_true rfl) ?_
  intro p e s m args below meth c A Q ls hC hP hD hl hret
  obtain ⟨⟨hx, hb, hml, hown, hts⟩, hG, hA⟩ := id hC
  have hK := hG.1
  have hS : va_S A s.heap s.heap [] := va_S.rf
  have hf_18 := hts _ (List.mem_cons_of_mem _ A_314)
  have hin_J4 : ∀ w ∈ u_ws RJ4 TJ4 4, w ∈ wq_J5_isLatin1_aae02 := fun w h => List.mem_cons_of_mem _ (iU_J4 w h)
  have hf_22 := hts _ (List.mem_cons_of_mem _ A_316)
  have hl : lv_has ls 1 [(0, .ref (ad 0))] := hl
  have hown : s.vm.findClass RJ5 = some m.cls := hown
  unfold q_J5_isLatin1_aae02 at hp
  have B_18 : ∀ (s0 : Int32) (σ : Mem) (H : Heap) (locs : List Loc) (ls : Array Slot), va_P D vwCl (WB k ad n (σ)) H → va_D A (WB k ad n (σ)) → va_S A s.heap H locs → lv_has ls 1 [] → (q_J5_isLatin1_aae02_18 ad n post) s0 σ → W p l e rm_J5_isLatin1_aae02 s m args below meth c H locs 0 0 Q (F0 m 18 ls [.int s0]) := by
    intro s0 σ H locs ls hP hD hS hl hp
    unfold q_J5_isLatin1_aae02_18 at hp
    exact hret s0 (σ) _ _ _ _ _ _ dJ5_isLatin1_aae02_18 hp.1.1 hP hD hS (Nat.le_of_ble_eq_true rfl) (Nat.le_of_ble_eq_true rfl) hp.2
  have B_17 : ∀  (σ : Mem) (H : Heap) (locs : List Loc) (ls : Array Slot), va_P D vwCl (WB k ad n (σ)) H → va_D A (WB k ad n (σ)) → va_S A s.heap H locs → lv_has ls 1 [] → (q_J5_isLatin1_aae02_17 ad n post)  σ → W p l e rm_J5_isLatin1_aae02 s m args below meth c H locs 0 0 Q (F0 m 17 ls []) := by
    intro  σ H locs ls hP hD hS hl hp
    unfold q_J5_isLatin1_aae02_17 at hp
    refine lv_iconst (v := 0) hx hb dJ5_isLatin1_aae02_17 (by decide) ?_
    exact B_18 0 (σ) _ _ _  hP hD hS (lv_sub hl [] rfl) hp
  refine va_gets hx hb hG.2.2.2.2.2.1 hS hown hf_18 (fun _ h9 => h9) dJ5_isLatin1_aae02_0 ?_
  refine lv_if_eq (tgt := 17) hx hb dJ5_isLatin1_aae02_3 (by decide) (fun c9 => absurd c9 (by decide)) (fun _ => ?_)
  refine lv_aload_n hx hb dJ5_isLatin1_aae02_6 rfl (lv_at hl 0 rfl) ?_
  refine va_get (D := D) (ci := 1) (C := RJ4) (T := TJ4) (N := 4) hx hb hts hin_J4 hown hK hP 0 rfl rfl 1 (by decide) hf_22 (fun _ h9 => h9) rfl dJ5_isLatin1_aae02_7 ?_
  refine lv_if_ne (tgt := 17) hx hb dJ5_isLatin1_aae02_10 (by decide) (fun c1 => ?_) (fun c1 => ?_)
  · have hp := hp.1 c1
    exact B_17  (σ) _ _ _  hP hD hS (lv_sub hl [] rfl) hp
  · have hp := hp.2 c1
    refine lv_iconst (v := 1) hx hb dJ5_isLatin1_aae02_13 (by decide) ?_
    refine lv_goto (tgt := 18) hx hb dJ5_isLatin1_aae02_14 (by decide) ?_
    exact B_18 1 (σ) _ _ _  hP hD hS (lv_sub hl [] rfl) hp
def q_J5_ensureCapacityInternal_d00df_38 (ad : Nat → Nat) (n : Nat) (post : Mem → Prop)  (σ : Mem) : Prop := post (σ)
def q_J5_ensureCapacityInternal_d00df (ad : Nat → Nat) (n : Nat) (post : Mem → Prop) (p1 : Int32) (σ : Mem) : Prop := (∀ v1 : Int32, v1 = ((nI n) >>> (((σ) 0 1) &&& 31)) → (((p1 - v1) ≤ 0 → (q_J5_ensureCapacityInternal_d00df_38 ad n post) (σ)) ∧ (¬ ((p1 - v1) ≤ 0) → False)))
abbrev rm_J5_ensureCapacityInternal_d00df : Room := { frames := 0, cells := 0, slots := 0, locals := 0 }
abbrev wq_J5_ensureCapacityInternal_d00df : List Cond := Cond.code yJ5_ensureCapacityInternal_d00df cJ5_ensureCapacityInternal_d00df 3 none :: wALL
set_option maxHeartbeats 4000000 in
set_option maxRecDepth 100000 in
theorem c_J5_ensureCapacityInternal_d00df (l : Launch) (D : va_G) (k ad : Nat → Nat) (n : Nat) {sz : Nat} {σ : Mem} {p1 : Int32} {post : Mem → Prop} (hp : q_J5_ensureCapacityInternal_d00df ad n post p1 σ) : Met l yJ5_ensureCapacityInternal_d00df wq_J5_ensureCapacityInternal_d00df rm_J5_ensureCapacityInternal_d00df (va_Pc [.ref (ad 0), .int p1] (Pw D k (WB k ad n (σ)) sz)) (va_Qv post (fun u => Bw D (WB k ad n (σ)) sz (WB k ad n u)) (va_A (WB k ad n (σ)) sz)) 0 0 (va_A (WB k ad n (σ)) sz) := by
  refine fw_v (wf := fun u : Mem => WB k ad n u) (by decide) rfl (Nat.le_of_ble_eq_true rfl) ?_
  intro p e s m args below meth c A Q ls hC hP hD hl hmn hret
  obtain ⟨⟨hx, hb, hml, hown, hts⟩, hG, hA⟩ := id hC
  have hK := hG.1
  have hS : va_S A s.heap s.heap [] := va_S.rf
  have hin_J4 : ∀ w ∈ u_ws RJ4 TJ4 4, w ∈ wq_J5_ensureCapacityInternal_d00df := fun w h => List.mem_cons_of_mem _ (iU_J4 w h)
  have hf_15 := hts _ (List.mem_cons_of_mem _ A_315)
  have hf_22 := hts _ (List.mem_cons_of_mem _ A_316)
  have hl : lv_has ls 3 [(0, .ref (ad 0)), (1, .int p1)] := hl
  have hown : s.vm.findClass RJ5 = some m.cls := hown
  unfold q_J5_ensureCapacityInternal_d00df at hp
  have B_38 : ∀  (σ : Mem) (H : Heap) (locs : List Loc) (ls : Array Slot), va_P D vwCl (WB k ad n (σ)) H → va_D A (WB k ad n (σ)) → va_S A s.heap H locs → lv_has ls 3 [] → (q_J5_ensureCapacityInternal_d00df_38 ad n post)  σ → W p l e rm_J5_ensureCapacityInternal_d00df s m args below meth c H locs 0 0 Q (F0 m 38 ls []) := by
    intro  σ H locs ls hP hD hS hl hp
    unfold q_J5_ensureCapacityInternal_d00df_38 at hp
    exact hret (σ) _ _ _ _ _ _ dJ5_ensureCapacityInternal_d00df_38 hP hD hS (Nat.le_of_ble_eq_true rfl) (Nat.le_of_ble_eq_true rfl) hp
  refine lv_aload_n hx hb dJ5_ensureCapacityInternal_d00df_0 rfl (lv_at hl 0 rfl) ?_
  refine va_get (D := D) (ci := 1) (C := RJ4) (T := TJ4) (N := 4) hx hb hts hin_J4 hown hK hP 0 rfl rfl 0 (by decide) hf_15 (fun _ h9 => h9) rfl dJ5_ensureCapacityInternal_d00df_1 ?_
  refine va_alen hx hb hK hP 1 4 rfl rfl (v := nI n) rfl dJ5_ensureCapacityInternal_d00df_4 ?_
  refine lv_aload_n hx hb dJ5_ensureCapacityInternal_d00df_5 rfl (lv_at hl 0 rfl) ?_
  refine va_get (D := D) (ci := 1) (C := RJ4) (T := TJ4) (N := 4) hx hb hts hin_J4 hown hK hP 0 rfl rfl 1 (by decide) hf_22 (fun _ h9 => h9) rfl dJ5_ensureCapacityInternal_d00df_6 ?_
  refine lv_ishr hx hb dJ5_ensureCapacityInternal_d00df_9 ?_
  refine lv_topi (fun v1 ev1 => ?_)
  have hp := hp v1 ev1
  refine lv_istore_n (lv' := [(2, .int v1), (0, .ref (ad 0)), (1, .int p1)]) hx hb dJ5_ensureCapacityInternal_d00df_10 rfl hl (by decide) rfl (fun ls hl => ?_)
  refine lv_iload_n hx hb dJ5_ensureCapacityInternal_d00df_11 rfl (lv_at hl 2 rfl) ?_
  refine lv_iload_n hx hb dJ5_ensureCapacityInternal_d00df_12 rfl (lv_at hl 0 rfl) ?_
  refine lv_isub hx hb dJ5_ensureCapacityInternal_d00df_13 ?_
  refine lv_if_le (tgt := 38) hx hb dJ5_ensureCapacityInternal_d00df_14 (by decide) (fun c2 => ?_) (fun c2 => ?_)
  · have hp := hp.1 c2
    exact B_38  (σ) _ _ _  hP hD hS (lv_sub hl [] rfl) hp
  · have hp := hp.2 c2
    refine lv_aload_n hx hb dJ5_ensureCapacityInternal_d00df_17 rfl (lv_at hl 1 rfl) ?_
    refine lv_aload_n hx hb dJ5_ensureCapacityInternal_d00df_18 rfl (lv_at hl 1 rfl) ?_
    refine va_get (D := D) (ci := 1) (C := RJ4) (T := TJ4) (N := 4) hx hb hts hin_J4 hown hK hP 0 rfl rfl 0 (by decide) hf_15 (fun _ h9 => h9) rfl dJ5_ensureCapacityInternal_d00df_19 ?_
    refine lv_aload_n hx hb dJ5_ensureCapacityInternal_d00df_22 rfl (lv_at hl 1 rfl) ?_
    refine lv_iload_n hx hb dJ5_ensureCapacityInternal_d00df_23 rfl (lv_at hl 2 rfl) ?_
    exact hp.elim
def q_J5_append_3fe6f_75 (ad : Nat → Nat) (n : Nat) (post : Nat → Mem → Prop)  (σ : Mem) : Prop := post (ad 0) (σ)
def q_J5_append_3fe6f_56 (ad : Nat → Nat) (n : Nat) (post : Nat → Mem → Prop)  (x1 : Int32) (σ : Mem) : Prop := (∀ σ2001 : Mem, σ2001 = mst (σ) 0 3 (((σ) 0 3) + 1) → False)
def q_J5_append_3fe6f_45 (ad : Nat → Nat) (n : Nat) (post : Nat → Mem → Prop)  (x1 : Int32) (σ : Mem) : Prop := (q_J5_isLatin1_aae02 ad n (fun (r1001 : Int32) (σ1002 : Mem) => ((r1001 = 0 → (q_J5_append_3fe6f_56 ad n post) x1 (σ1002)) ∧ (¬ (r1001 = 0) → False))) (σ))
def q_J5_append_3fe6f (ad : Nat → Nat) (n : Nat) (post : Nat → Mem → Prop) (p1 : Int32) (σ : Mem) : Prop := (q_J5_ensureCapacityInternal_d00df ad n (fun (σ2 : Mem) => (q_J5_isLatin1_aae02 ad n (fun (r3 : Int32) (σ4 : Mem) => ((r3 = 0 → (q_J5_append_3fe6f_45 ad n post) p1 (σ4)) ∧ (¬ (r3 = 0) → (q_J1_canEncode_fc78d (fun (r6 : Int32) (σ7 : Mem) => ((r6 = 0 → (q_J5_append_3fe6f_45 ad n post) p1 (σ4)) ∧ (¬ (r6 = 0) → (∀ σ9 : Mem, σ9 = mst (σ4) 0 3 (((σ4) 0 3) + 1) → (vp_in ((σ4) 0 3) n ∧ (∀ σ11 : Mem, σ11 = mst (σ9) 1 (((σ4) 0 3).toNatClampNeg) (vp_nar .byte (p1.toInt8.toInt32)) → (q_J5_append_3fe6f_75 ad n post) (σ11))))))) p1 (σ4))))) (σ2))) (((σ) 0 3) + 1) (σ))
abbrev rm_J5_append_3fe6f : Room := { frames := 1, cells := 0, slots := 0, locals := 22 }
abbrev wq_J5_append_3fe6f : List Cond := Cond.code yJ5_append_3fe6f cJ5_append_3fe6f 2 (some (.object "java/lang/AbstractStringBuilder")) :: wALL
set_option maxHeartbeats 4000000 in
set_option maxRecDepth 100000 in
theorem c_J5_append_3fe6f (l : Launch) (D : va_G) (k ad : Nat → Nat) (n : Nat) {sz : Nat} {σ : Mem} {p1 : Int32} {post : Nat → Mem → Prop} (hp : q_J5_append_3fe6f ad n post p1 σ) : Met l yJ5_append_3fe6f wq_J5_append_3fe6f rm_J5_append_3fe6f (va_Pc [.ref (ad 0), .int p1] (Pw D k (WB k ad n (σ)) sz)) (va_Qr (fun z : Nat × Mem => post z.1 z.2) (fun z a t => a = z.1 ∧ Bw D (WB k ad n (σ)) sz (WB k ad n z.2) t) (va_A (WB k ad n (σ)) sz)) 0 0 (va_A (WB k ad n (σ)) sz) := by
  refine fw_r (Or.inl ⟨_, rfl⟩) (wf := fun u : Mem => WB k ad n u) (by decide) rfl (Nat.le_of_ble_eq_true rfl) ?_
  intro p e s m args below meth c A Q ls hC hP hD hl hret
  obtain ⟨⟨hx, hb, hml, hown, hts⟩, hG, hA⟩ := id hC
  have hK := hG.1
  have hS : va_S A s.heap s.heap [] := va_S.rf
  have hin_J4 : ∀ w ∈ u_ws RJ4 TJ4 4, w ∈ wq_J5_append_3fe6f := fun w h => List.mem_cons_of_mem _ (iU_J4 w h)
  have hf_79 := hts _ (List.mem_cons_of_mem _ A_382)
  have hf_15 := hts _ (List.mem_cons_of_mem _ A_315)
  have hl : lv_has ls 2 [(0, .ref (ad 0)), (1, .int p1)] := hl
  have hown : s.vm.findClass RJ5 = some m.cls := hown
  unfold q_J5_append_3fe6f at hp
  have B_75 : ∀  (σ : Mem) (H : Heap) (locs : List Loc) (ls : Array Slot), va_P D vwCl (WB k ad n (σ)) H → va_D A (WB k ad n (σ)) → va_S A s.heap H locs → lv_has ls 2 [(0, .ref (ad 0))] → (q_J5_append_3fe6f_75 ad n post)  σ → W p l e rm_J5_append_3fe6f s m args below meth c H locs 0 0 Q (F0 m 75 ls []) := by
    intro  σ H locs ls hP hD hS hl hp
    unfold q_J5_append_3fe6f_75 at hp
    refine lv_aload_n hx hb dJ5_append_3fe6f_75 rfl (lv_at hl 0 rfl) ?_
    exact hret (ad 0) (σ) _ _ _ _ _ _ dJ5_append_3fe6f_76 hP hD hS (Nat.le_of_ble_eq_true rfl) (Nat.le_of_ble_eq_true rfl) hp
  have B_56 : ∀ (x1 : Int32) (σ : Mem) (H : Heap) (locs : List Loc) (ls : Array Slot), va_P D vwCl (WB k ad n (σ)) H → va_D A (WB k ad n (σ)) → va_S A s.heap H locs → lv_has ls 2 [(0, .ref (ad 0)), (1, .int x1)] → (q_J5_append_3fe6f_56 ad n post) x1 σ → W p l e rm_J5_append_3fe6f s m args below meth c H locs 0 0 Q (F0 m 56 ls []) := by
    intro x1 σ H locs ls hP hD hS hl hp
    unfold q_J5_append_3fe6f_56 at hp
    refine lv_aload_n hx hb dJ5_append_3fe6f_56 rfl (lv_at hl 0 rfl) ?_
    refine va_get (D := D) (ci := 1) (C := RJ4) (T := TJ4) (N := 4) hx hb hts hin_J4 hown hK hP 0 rfl rfl 0 (by decide) hf_15 (fun _ h9 => h9) rfl dJ5_append_3fe6f_57 ?_
    refine lv_aload_n hx hb dJ5_append_3fe6f_60 rfl (lv_at hl 0 rfl) ?_
    refine lv_dup hx hb dJ5_append_3fe6f_61 rfl ?_
    refine va_get (D := D) (ci := 1) (C := RJ4) (T := TJ4) (N := 4) hx hb hts hin_J4 hown hK hP 0 rfl rfl 3 (by decide) hf_79 (fun _ h9 => h9) rfl dJ5_append_3fe6f_62 ?_
    refine lv_dup_x1 hx hb dJ5_append_3fe6f_65 rfl rfl ?_
    refine lv_iconst (v := 1) hx hb dJ5_append_3fe6f_66 (by decide) ?_
    refine lv_iadd hx hb dJ5_append_3fe6f_67 ?_
    refine va_put (D := D) (ci := 1) (v := .int (((σ) 0 3) + 1)) (ty := .int) (C := RJ4) (T := TJ4) (N := 4) hx hb hts hin_J4 tyJ4 tyJ4_ok nmJ4 hown hK hP hD hS 0 rfl rfl 3 (by decide) hf_79 (fun _ h9 => h9) rfl (by decide +kernel) rfl rfl (Nat.le_of_ble_eq_true rfl) dJ5_append_3fe6f_68 (fun H locs hP hD hS => ?_)
    obtain ⟨σ20001, eσ20001⟩ : ∃ z : Mem, z = mst (σ) 0 3 (((σ) 0 3) + 1) := ⟨_, rfl⟩
    have hp := hp σ20001 eσ20001
    have hP : va_P D vwCl (WB k ad n (σ20001)) H := by rw [eσ20001]; exact hP
    have hD : va_D A (WB k ad n (σ20001)) := by rw [eσ20001]; exact hD
    refine lv_iload_n hx hb dJ5_append_3fe6f_71 rfl (lv_at hl 1 rfl) ?_
    exact hp.elim
  have B_45 : ∀ (x1 : Int32) (σ : Mem) (H : Heap) (locs : List Loc) (ls : Array Slot), va_P D vwCl (WB k ad n (σ)) H → va_D A (WB k ad n (σ)) → va_S A s.heap H locs → lv_has ls 2 [(0, .ref (ad 0)), (1, .int x1)] → (q_J5_append_3fe6f_45 ad n post) x1 σ → W p l e rm_J5_append_3fe6f s m args below meth c H locs 0 0 Q (F0 m 45 ls []) := by
    intro x1 σ H locs ls hP hD hS hl hp
    unfold q_J5_append_3fe6f_45 at hp
    refine lv_aload_n hx hb dJ5_append_3fe6f_45 rfl (lv_at hl 0 rfl) ?_
    refine fw_ciU (As := []) (rest := []) hC (c_J5_isLatin1_aae02 l D k ad n hp) (va_cwU 0 hts (gA_U (x := ⟨"java/lang/AbstractStringBuilder", "isLatin1", "()Z"⟩) (y := yJ5_isLatin1_aae02) (owner := "java/lang/AbstractStringBuilder") A_383 A_384 A_385 A_386 A_322 A_355) rfl rfl rfl rfl ⟨by decide, by decide, by decide +kernel⟩ ⟨Nat.le_of_ble_eq_true rfl, Nat.le_of_ble_eq_true rfl⟩) (va_recv hK hP (ci := 1) (q0 := 0) rfl rfl) rfl hl.1 rfl (Nat.le_of_ble_eq_true rfl) dJ5_append_3fe6f_46 ⟨Nat.le_of_ble_eq_true rfl, Nat.le_of_ble_eq_true rfl⟩ hP hD hS Jn.same (fun r10001 σ10002 H locs hP hD hS hp => ?_)
    have hP : va_P D vwCl (WB k ad n (σ10002)) H := hP
    have hD : va_D A (WB k ad n (σ10002)) := hD
    refine lv_if_eq (tgt := 56) hx hb dJ5_append_3fe6f_49 (by decide) (fun c10003 => ?_) (fun c10003 => ?_)
    · have hp := hp.1 c10003
      exact B_56 x1 (σ10002) _ _ _  hP hD hS (lv_sub hl [0, 1] rfl) hp
    · have hp := hp.2 c10003
      refine lv_aload_n hx hb dJ5_append_3fe6f_52 rfl (lv_at hl 0 rfl) ?_
      exact hp.elim
  refine lv_aload_n hx hb dJ5_append_3fe6f_0 rfl (lv_at hl 0 rfl) ?_
  refine lv_aload_n hx hb dJ5_append_3fe6f_1 rfl (lv_at hl 0 rfl) ?_
  refine va_get (D := D) (ci := 1) (C := RJ4) (T := TJ4) (N := 4) hx hb hts hin_J4 hown hK hP 0 rfl rfl 3 (by decide) hf_79 (fun _ h9 => h9) rfl dJ5_append_3fe6f_2 ?_
  refine lv_iconst (v := 1) hx hb dJ5_append_3fe6f_5 (by decide) ?_
  refine lv_iadd hx hb dJ5_append_3fe6f_6 ?_
  refine fw_cvU (As := [.int (((σ) 0 3) + 1)]) (rest := []) hC (c_J5_ensureCapacityInternal_d00df l D k ad n hp) (va_cwU 1 hts (gA_U (x := ⟨"java/lang/AbstractStringBuilder", "ensureCapacityInternal", "(I)V"⟩) (y := yJ5_ensureCapacityInternal_d00df) (owner := "java/lang/AbstractStringBuilder") A_401 A_402 A_403 A_404 A_322 A_354) rfl rfl rfl rfl ⟨by decide, by decide, by decide +kernel⟩ ⟨Nat.le_of_ble_eq_true rfl, Nat.le_of_ble_eq_true rfl⟩) (va_recv hK hP (ci := 1) (q0 := 0) rfl rfl) rfl hl.1 rfl (Nat.le_of_ble_eq_true rfl) dJ5_append_3fe6f_7 ⟨Nat.le_of_ble_eq_true rfl, Nat.le_of_ble_eq_true rfl⟩ hP hD hS Jn.same (fun σ2 H locs hP hD hS hp => ?_)
  have hP : va_P D vwCl (WB k ad n (σ2)) H := hP
  have hD : va_D A (WB k ad n (σ2)) := hD
  refine lv_aload_n hx hb dJ5_append_3fe6f_10 rfl (lv_at hl 0 rfl) ?_
  refine fw_ciU (As := []) (rest := []) hC (c_J5_isLatin1_aae02 l D k ad n hp) (va_cwU 0 hts (gA_U (x := ⟨"java/lang/AbstractStringBuilder", "isLatin1", "()Z"⟩) (y := yJ5_isLatin1_aae02) (owner := "java/lang/AbstractStringBuilder") A_383 A_384 A_385 A_386 A_322 A_355) rfl rfl rfl rfl ⟨by decide, by decide, by decide +kernel⟩ ⟨Nat.le_of_ble_eq_true rfl, Nat.le_of_ble_eq_true rfl⟩) (va_recv hK hP (ci := 1) (q0 := 0) rfl rfl) rfl hl.1 rfl (Nat.le_of_ble_eq_true rfl) dJ5_append_3fe6f_11 ⟨Nat.le_of_ble_eq_true rfl, Nat.le_of_ble_eq_true rfl⟩ hP hD hS Jn.same (fun r3 σ4 H locs hP hD hS hp => ?_)
  have hP : va_P D vwCl (WB k ad n (σ4)) H := hP
  have hD : va_D A (WB k ad n (σ4)) := hD
  refine lv_if_eq (tgt := 45) hx hb dJ5_append_3fe6f_14 (by decide) (fun c5 => ?_) (fun c5 => ?_)
  · have hp := hp.1 c5
    exact B_45 p1 (σ4) _ _ _  hP hD hS (lv_sub hl [0, 1] rfl) hp
  · have hp := hp.2 c5
    refine lv_iload_n hx hb dJ5_append_3fe6f_17 rfl (lv_at hl 1 rfl) ?_
    refine fw_ciS (As := [.int p1]) (rest := []) hC (c_J1_canEncode_fc78d l D k hp) (va_cwS 1 hts (gA_S A_405 A_406 A_389 A_356) rfl rfl rfl (by decide +kernel) ⟨Nat.le_of_ble_eq_true rfl, Nat.le_of_ble_eq_true rfl⟩) rfl hl.1 rfl (Nat.le_of_ble_eq_true rfl) dJ5_append_3fe6f_18 ⟨Nat.le_of_ble_eq_true rfl, Nat.le_of_ble_eq_true rfl⟩ P_nil D_nil hS (Jn.pure (w0 := fun _ : Mem => []) hP hD) (fun r6 σ7 H locs hP hD hS hp => ?_)
    have hP : va_P D vwCl (WB k ad n (σ4)) H := hP
    have hD : va_D A (WB k ad n (σ4)) := hD
    refine lv_if_eq (tgt := 45) hx hb dJ5_append_3fe6f_21 (by decide) (fun c8 => ?_) (fun c8 => ?_)
    · have hp := hp.1 c8
      exact B_45 p1 (σ4) _ _ _  hP hD hS (lv_sub hl [0, 1] rfl) hp
    · have hp := hp.2 c8
      refine lv_aload_n hx hb dJ5_append_3fe6f_24 rfl (lv_at hl 0 rfl) ?_
      refine va_get (D := D) (ci := 1) (C := RJ4) (T := TJ4) (N := 4) hx hb hts hin_J4 hown hK hP 0 rfl rfl 0 (by decide) hf_15 (fun _ h9 => h9) rfl dJ5_append_3fe6f_25 ?_
      refine lv_aload_n hx hb dJ5_append_3fe6f_28 rfl (lv_at hl 0 rfl) ?_
      refine lv_dup hx hb dJ5_append_3fe6f_29 rfl ?_
      refine va_get (D := D) (ci := 1) (C := RJ4) (T := TJ4) (N := 4) hx hb hts hin_J4 hown hK hP 0 rfl rfl 3 (by decide) hf_79 (fun _ h9 => h9) rfl dJ5_append_3fe6f_30 ?_
      refine lv_dup_x1 hx hb dJ5_append_3fe6f_33 rfl rfl ?_
      refine lv_iconst (v := 1) hx hb dJ5_append_3fe6f_34 (by decide) ?_
      refine lv_iadd hx hb dJ5_append_3fe6f_35 ?_
      refine va_put (D := D) (ci := 1) (v := .int (((σ4) 0 3) + 1)) (ty := .int) (C := RJ4) (T := TJ4) (N := 4) hx hb hts hin_J4 tyJ4 tyJ4_ok nmJ4 hown hK hP hD hS 0 rfl rfl 3 (by decide) hf_79 (fun _ h9 => h9) rfl (by decide +kernel) rfl rfl (Nat.le_of_ble_eq_true rfl) dJ5_append_3fe6f_36 (fun H locs hP hD hS => ?_)
      obtain ⟨σ9, eσ9⟩ : ∃ z : Mem, z = mst (σ4) 0 3 (((σ4) 0 3) + 1) := ⟨_, rfl⟩
      have hp := hp σ9 eσ9
      have hP : va_P D vwCl (WB k ad n (σ9)) H := by rw [eσ9]; exact hP
      have hD : va_D A (WB k ad n (σ9)) := by rw [eσ9]; exact hD
      refine lv_iload_n hx hb dJ5_append_3fe6f_39 rfl (lv_at hl 1 rfl) ?_
      refine lv_i2b (v := p1.toInt8.toInt32) hx hb dJ5_append_3fe6f_40 rfl ?_
      obtain ⟨h10, hp⟩ := hp
      refine va_bast hx hb hK hP hD hS 1 4 rfl rfl h10 dJ5_append_3fe6f_41 (fun H locs hP hD hS => ?_)
      obtain ⟨σ11, eσ11⟩ : ∃ z : Mem, z = mst (σ9) 1 (((σ4) 0 3).toNatClampNeg) (vp_nar .byte (p1.toInt8.toInt32)) := ⟨_, rfl⟩
      have hp := hp σ11 eσ11
      have hP : va_P D vwCl (WB k ad n (σ11)) H := by rw [eσ11]; exact hP
      have hD : va_D A (WB k ad n (σ11)) := by rw [eσ11]; exact hD
      refine lv_goto (tgt := 75) hx hb dJ5_append_3fe6f_42 (by decide) ?_
      exact B_75  (σ11) _ _ _  hP hD hS (lv_sub hl [0] rfl) hp
def q_J4_append_cf468 (ad : Nat → Nat) (n : Nat) (post : Nat → Mem → Prop) (p1 : Int32) (σ : Mem) : Prop := (q_J5_append_3fe6f ad n (fun (r1 : Nat) (σ2 : Mem) => post (ad 0) (σ2)) p1 (σ))
abbrev rm_J4_append_cf468 : Room := { frames := 2, cells := 0, slots := 0, locals := 43 }
abbrev wq_J4_append_cf468 : List Cond := Cond.code yJ4_append_cf468 cJ4_append_cf468 2 (some (.object "java/lang/StringBuilder")) :: wALL
set_option maxHeartbeats 4000000 in
set_option maxRecDepth 100000 in
theorem c_J4_append_cf468 (l : Launch) (D : va_G) (k ad : Nat → Nat) (n : Nat) {sz : Nat} {σ : Mem} {p1 : Int32} {post : Nat → Mem → Prop} (hp : q_J4_append_cf468 ad n post p1 σ) : Met l yJ4_append_cf468 wq_J4_append_cf468 rm_J4_append_cf468 (va_Pc [.ref (ad 0), .int p1] (Pw D k (WB k ad n (σ)) sz)) (va_Qr (fun z : Nat × Mem => post z.1 z.2) (fun z a t => a = z.1 ∧ Bw D (WB k ad n (σ)) sz (WB k ad n z.2) t) (va_A (WB k ad n (σ)) sz)) 0 0 (va_A (WB k ad n (σ)) sz) := by
  refine fw_r (Or.inl ⟨_, rfl⟩) (wf := fun u : Mem => WB k ad n u) (by decide) rfl (Nat.le_of_ble_eq_true rfl) ?_
  intro p e s m args below meth c A Q ls hC hP hD hl hret
  obtain ⟨⟨hx, hb, hml, hown, hts⟩, hG, hA⟩ := id hC
  have hK := hG.1
  have hS : va_S A s.heap s.heap [] := va_S.rf
  have hl : lv_has ls 2 [(0, .ref (ad 0)), (1, .int p1)] := hl
  have hown : s.vm.findClass RJ4 = some m.cls := hown
  unfold q_J4_append_cf468 at hp
  refine lv_aload_n hx hb dJ4_append_cf468_0 rfl (lv_at hl 0 rfl) ?_
  refine lv_iload_n hx hb dJ4_append_cf468_1 rfl (lv_at hl 1 rfl) ?_
  refine fw_crSU (As := [.int p1]) (rest := []) hC (c_J5_append_3fe6f l D k ad n hp) (hK.1 1 _ rfl).2 (va_cwSU 1 hts (gA_SU A_414 A_415 A_416 A_417 A_322 A_413) rfl rfl rfl ⟨by decide, by decide +kernel⟩ ⟨Nat.le_of_ble_eq_true rfl, Nat.le_of_ble_eq_true rfl⟩) (va_recv hK hP (ci := 1) (q0 := 0) rfl rfl) rfl hl.1 rfl (Nat.le_of_ble_eq_true rfl) dJ4_append_cf468_2 ⟨Nat.le_of_ble_eq_true rfl, Nat.le_of_ble_eq_true rfl⟩ hP hD hS Jn.same (fun r1 σ2 H locs hP hD hS hp => ?_)
  have hP : va_P D vwCl (WB k ad n (σ2)) H := hP
  have hD : va_D A (WB k ad n (σ2)) := hD
  refine lv_pop hx hb dJ4_append_cf468_5 rfl ?_
  refine lv_aload_n hx hb dJ4_append_cf468_6 rfl (lv_at hl 0 rfl) ?_
  exact hret (ad 0) (σ2) _ _ _ _ _ _ dJ4_append_cf468_7 hP hD hS (Nat.le_of_ble_eq_true rfl) (Nat.le_of_ble_eq_true rfl) hp
def q_J6_getChars_ba4f3_118 (ad : Nat → Nat) (n : Nat) (post : Int32 → Mem → Prop)  (x5 : Int32) (σ : Mem) : Prop := post x5 (σ)
def q_J6_getChars_ba4f3_104 (ad : Nat → Nat) (n : Nat) (post : Int32 → Mem → Prop)  (x5 : Int32) (x6 : Int32) (σ : Mem) : Prop := ((x6 = 0 → (q_J6_getChars_ba4f3_118 ad n post) x5 (σ)) ∧ (¬ (x6 = 0) → (∀ v4002 : Int32, v4002 = x5 + (-1) → (vp_in v4002 n ∧ (∀ σ4004 : Mem, σ4004 = mst (σ) 1 v4002.toNatClampNeg (vp_nar .byte 45) → (q_J6_getChars_ba4f3_118 ad n post) v4002 (σ4004))))))
def q_J6_getChars_ba4f3_72 (ad : Nat → Nat) (n : Nat) (post : Int32 → Mem → Prop)  (x0 : Int32) (x5 : Int32) (x6 : Int32) (σ : Mem) : Prop := (∀ v3001 : Int32, v3001 = x5 + (-1) → (vp_in (-x0) 100 ∧ (vp_in v3001 n ∧ (∀ σ3004 : Mem, σ3004 = mst (σ) 1 v3001.toNatClampNeg (vp_nar .byte (nI (48 + ((-x0).toNatClampNeg) % 10))) → (((-9) ≤ x0 → (q_J6_getChars_ba4f3_104 ad n post) v3001 x6 (σ3004)) ∧ (¬ ((-9) ≤ x0) → (∀ v3006 : Int32, v3006 = v3001 + (-1) → (vp_in (-x0) 100 ∧ (vp_in v3006 n ∧ (∀ σ3009 : Mem, σ3009 = mst (σ3004) 1 v3006.toNatClampNeg (vp_nar .byte (nI (48 + ((-x0).toNatClampNeg) / 10))) → (q_J6_getChars_ba4f3_104 ad n post) v3006 x6 (σ3009)))))))))))
def q_J6_getChars_ba4f3_22 (ad : Nat → Nat) (n : Nat) (post : Int32 → Mem → Prop) (kE_72 : Int32 → Int32 → Int32 → Mem → Prop) (kc_22 : Int32 → Int32 → Int32 → Mem → Prop) (x0 : Int32) (x5 : Int32) (x6 : Int32) (σ : Mem) : Prop := (((-100) < x0 → kE_72 x0 x5 x6 (σ)) ∧ (¬ ((-100) < x0) → (∀ v2002 : Int32, v2002 = (x0 / 100) → (∀ v2003 : Int32, v2003 = ((v2002 * 100) - x0) → (∀ v2004 : Int32, v2004 = x5 + (-1) → (vp_in v2003 100 ∧ (vp_in v2004 n ∧ (∀ σ2007 : Mem, σ2007 = mst (σ) 1 v2004.toNatClampNeg (vp_nar .byte (nI (48 + v2003.toNatClampNeg % 10))) → (∀ v2008 : Int32, v2008 = v2004 + (-1) → (vp_in v2003 100 ∧ (vp_in v2008 n ∧ (∀ σ2011 : Mem, σ2011 = mst (σ2007) 1 v2008.toNatClampNeg (vp_nar .byte (nI (48 + v2003.toNatClampNeg / 10))) → kc_22 v2002 v2008 x6 (σ2011)))))))))))))
def q_J6_getChars_ba4f3_12 (ad : Nat → Nat) (n : Nat) (post : Int32 → Mem → Prop)  (s0 : Int32) (x0 : Int32) (x5 : Int32) (σ : Mem) : Prop := ((s0 ≠ 0 → (∃ n9 : Nat, lp_4 (q_J6_getChars_ba4f3_22 ad n post (q_J6_getChars_ba4f3_72 ad n post)) n9 x0 x5 s0 (σ))) ∧ (s0 = 0 → (∀ v1002 : Int32, v1002 = (-x0) → (∃ n9 : Nat, lp_4 (q_J6_getChars_ba4f3_22 ad n post (q_J6_getChars_ba4f3_72 ad n post)) n9 v1002 x5 s0 (σ)))))
def q_J6_getChars_ba4f3 (ad : Nat → Nat) (n : Nat) (post : Int32 → Mem → Prop) (p1 : Int32) (p2 : Int32) (σ : Mem) : Prop := ((0 ≤ p1 → (q_J6_getChars_ba4f3_12 ad n post) 0 p1 p2 (σ)) ∧ (¬ (0 ≤ p1) → (q_J6_getChars_ba4f3_12 ad n post) 1 p1 p2 (σ)))
abbrev rm_J6_getChars_ba4f3 : Room := { frames := 0, cells := 0, slots := 0, locals := 0 }
abbrev wq_J6_getChars_ba4f3 : List Cond := Cond.code yJ6_getChars_ba4f3 cJ6_getChars_ba4f3 7 (some .int) :: wALL
set_option maxHeartbeats 4000000 in
set_option maxRecDepth 100000 in
theorem c_J6_getChars_ba4f3 (l : Launch) (D : va_G) (k ad : Nat → Nat) (n : Nat) {sz : Nat} {σ : Mem} {p1 : Int32} {p2 : Int32} {post : Int32 → Mem → Prop} (hp : q_J6_getChars_ba4f3 ad n post p1 p2 σ) : Met l yJ6_getChars_ba4f3 wq_J6_getChars_ba4f3 rm_J6_getChars_ba4f3 (va_Pc [.int p1, .int p2, .ref (ad 1)] (Pw D k (WB k ad n (σ)) sz)) (va_Qi post (fun u => Bw D (WB k ad n (σ)) sz (WB k ad n u)) (va_A (WB k ad n (σ)) sz)) 0 0 (va_A (WB k ad n (σ)) sz) := by
  refine fw_i (wf := fun u : Mem => WB k ad n u) (by decide) rfl (Nat.le_of_ble_eq_true rfl) ?_
  intro p e s m args below meth c A Q ls hC hP hD hl hret
  obtain ⟨⟨hx, hb, hml, hown, hts⟩, hG, hA⟩ := id hC
  have hK := hG.1
  have hS : va_S A s.heap s.heap [] := va_S.rf
  have hf_83 := hts _ (List.mem_cons_of_mem _ A_421)
  have hf_87 := hts _ (List.mem_cons_of_mem _ A_422)
  have hl : lv_has ls 7 [(0, .int p1), (1, .int p2), (2, .ref (ad 1))] := hl
  have hown : s.vm.findClass RJ6 = some m.cls := hown
  unfold q_J6_getChars_ba4f3 at hp
  have B_118 : ∀ (x5 : Int32) (σ : Mem) (H : Heap) (locs : List Loc) (ls : Array Slot), va_P D vwCl (WB k ad n (σ)) H → va_D A (WB k ad n (σ)) → va_S A s.heap H locs → lv_has ls 7 [(5, .int x5)] → (q_J6_getChars_ba4f3_118 ad n post) x5 σ → W p l e rm_J6_getChars_ba4f3 s m args below meth c H locs 0 0 Q (F0 m 118 ls []) := by
    intro x5 σ H locs ls hP hD hS hl hp
    unfold q_J6_getChars_ba4f3_118 at hp
    refine lv_iload hx hb dJ6_getChars_ba4f3_118 (lv_at hl 0 rfl) ?_
    exact hret x5 (σ) _ _ _ _ _ _ dJ6_getChars_ba4f3_120 rfl hP hD hS (Nat.le_of_ble_eq_true rfl) (Nat.le_of_ble_eq_true rfl) hp
  have B_104 : ∀ (x5 : Int32) (x6 : Int32) (σ : Mem) (H : Heap) (locs : List Loc) (ls : Array Slot), va_P D vwCl (WB k ad n (σ)) H → va_D A (WB k ad n (σ)) → va_S A s.heap H locs → lv_has ls 7 [(2, .ref (ad 1)), (5, .int x5), (6, .int x6)] → (q_J6_getChars_ba4f3_104 ad n post) x5 x6 σ → W p l e rm_J6_getChars_ba4f3 s m args below meth c H locs 0 0 Q (F0 m 104 ls []) := by
    intro x5 x6 σ H locs ls hP hD hS hl hp
    unfold q_J6_getChars_ba4f3_104 at hp
    refine lv_iload hx hb dJ6_getChars_ba4f3_104 (lv_at hl 2 rfl) ?_
    refine lv_if_eq (tgt := 118) hx hb dJ6_getChars_ba4f3_106 (by decide) (fun c40001 => ?_) (fun c40001 => ?_)
    · have hp := hp.1 c40001
      exact B_118 x5 (σ) _ _ _  hP hD hS (lv_sub hl [1] rfl) hp
    · have hp := hp.2 c40001
      refine lv_aload_n hx hb dJ6_getChars_ba4f3_109 rfl (lv_at hl 0 rfl) ?_
      obtain ⟨v40002, ev40002⟩ : ∃ z : Int32, z = x5 + (-1) := ⟨_, rfl⟩
      have hp := hp v40002 ev40002
      refine lv_iinc (v := v40002) (lv' := [(5, .int v40002), (2, .ref (ad 1)), (6, .int x6)]) hx hb dJ6_getChars_ba4f3_110 hl (k := 1) rfl (by rw [ev40002]; rfl) (by decide) rfl (fun ls hl => ?_)
      refine lv_iload hx hb dJ6_getChars_ba4f3_113 (lv_at hl 0 rfl) ?_
      refine lv_bipush (v := 45) hx hb dJ6_getChars_ba4f3_115 (by decide) ?_
      obtain ⟨h40003, hp⟩ := hp
      refine va_bast hx hb hK hP hD hS 1 4 rfl rfl h40003 dJ6_getChars_ba4f3_117 (fun H locs hP hD hS => ?_)
      obtain ⟨σ40004, eσ40004⟩ : ∃ z : Mem, z = mst (σ) 1 v40002.toNatClampNeg (vp_nar .byte 45) := ⟨_, rfl⟩
      have hp := hp σ40004 eσ40004
      have hP : va_P D vwCl (WB k ad n (σ40004)) H := by rw [eσ40004]; exact hP
      have hD : va_D A (WB k ad n (σ40004)) := by rw [eσ40004]; exact hD
      exact B_118 v40002 (σ40004) _ _ _  hP hD hS (lv_sub hl [0] rfl) hp
  have B_72 : ∀ (x0 : Int32) (x5 : Int32) (x6 : Int32) (σ : Mem) (H : Heap) (locs : List Loc) (ls : Array Slot), va_P D vwCl (WB k ad n (σ)) H → va_D A (WB k ad n (σ)) → va_S A s.heap H locs → lv_has ls 7 [(0, .int x0), (2, .ref (ad 1)), (5, .int x5), (6, .int x6)] → (q_J6_getChars_ba4f3_72 ad n post) x0 x5 x6 σ → W p l e rm_J6_getChars_ba4f3 s m args below meth c H locs 0 0 Q (F0 m 72 ls []) := by
    intro x0 x5 x6 σ H locs ls hP hD hS hl hp
    unfold q_J6_getChars_ba4f3_72 at hp
    refine lv_aload_n hx hb dJ6_getChars_ba4f3_72 rfl (lv_at hl 1 rfl) ?_
    obtain ⟨v30001, ev30001⟩ : ∃ z : Int32, z = x5 + (-1) := ⟨_, rfl⟩
    have hp := hp v30001 ev30001
    refine lv_iinc (v := v30001) (lv' := [(5, .int v30001), (0, .int x0), (2, .ref (ad 1)), (6, .int x6)]) hx hb dJ6_getChars_ba4f3_73 hl (k := 2) rfl (by rw [ev30001]; rfl) (by decide) rfl (fun ls hl => ?_)
    refine lv_iload hx hb dJ6_getChars_ba4f3_76 (lv_at hl 0 rfl) ?_
    refine va_gets hx hb hG.2.2.2.2.2.2.2.1.1 hS hown hf_83 (fun _ h9 => h9) dJ6_getChars_ba4f3_78 ?_
    refine lv_iload_n hx hb dJ6_getChars_ba4f3_81 rfl (lv_at hl 1 rfl) ?_
    refine lv_ineg hx hb dJ6_getChars_ba4f3_82 ?_
    obtain ⟨h30002, hp⟩ := hp
    refine va_tb hx hb hG.2.2.2.2.2.2.2.1.2 hS h30002 rfl dJ6_getChars_ba4f3_83 ?_
    obtain ⟨h30003, hp⟩ := hp
    refine va_bast hx hb hK hP hD hS 1 4 rfl rfl h30003 dJ6_getChars_ba4f3_84 (fun H locs hP hD hS => ?_)
    obtain ⟨σ30004, eσ30004⟩ : ∃ z : Mem, z = mst (σ) 1 v30001.toNatClampNeg (vp_nar .byte (nI (48 + ((-x0).toNatClampNeg) % 10))) := ⟨_, rfl⟩
    have hp := hp σ30004 eσ30004
    have hP : va_P D vwCl (WB k ad n (σ30004)) H := by rw [eσ30004]; exact hP
    have hD : va_D A (WB k ad n (σ30004)) := by rw [eσ30004]; exact hD
    refine lv_iload_n hx hb dJ6_getChars_ba4f3_85 rfl (lv_at hl 1 rfl) ?_
    refine lv_bipush (v := (-9)) hx hb dJ6_getChars_ba4f3_86 (by decide) ?_
    refine lv_icmp_ge (tgt := 104) hx hb dJ6_getChars_ba4f3_88 (by decide) (fun c30005 => ?_) (fun c30005 => ?_)
    · have hp := hp.1 c30005
      exact B_104 v30001 x6 (σ30004) _ _ _  hP hD hS (lv_sub hl [2, 0, 3] rfl) hp
    · have hp := hp.2 c30005
      refine lv_aload_n hx hb dJ6_getChars_ba4f3_91 rfl (lv_at hl 2 rfl) ?_
      obtain ⟨v30006, ev30006⟩ : ∃ z : Int32, z = v30001 + (-1) := ⟨_, rfl⟩
      have hp := hp v30006 ev30006
      refine lv_iinc (v := v30006) (lv' := [(5, .int v30006), (0, .int x0), (2, .ref (ad 1)), (6, .int x6)]) hx hb dJ6_getChars_ba4f3_92 hl (k := 0) rfl (by rw [ev30006]; rfl) (by decide) rfl (fun ls hl => ?_)
      refine lv_iload hx hb dJ6_getChars_ba4f3_95 (lv_at hl 0 rfl) ?_
      refine va_gets hx hb hG.2.2.2.2.2.2.2.2.1.1 hS hown hf_87 (fun _ h9 => h9) dJ6_getChars_ba4f3_97 ?_
      refine lv_iload_n hx hb dJ6_getChars_ba4f3_100 rfl (lv_at hl 1 rfl) ?_
      refine lv_ineg hx hb dJ6_getChars_ba4f3_101 ?_
      obtain ⟨h30007, hp⟩ := hp
      refine va_tb hx hb hG.2.2.2.2.2.2.2.2.1.2 hS h30007 rfl dJ6_getChars_ba4f3_102 ?_
      obtain ⟨h30008, hp⟩ := hp
      refine va_bast hx hb hK hP hD hS 1 4 rfl rfl h30008 dJ6_getChars_ba4f3_103 (fun H locs hP hD hS => ?_)
      obtain ⟨σ30009, eσ30009⟩ : ∃ z : Mem, z = mst (σ30004) 1 v30006.toNatClampNeg (vp_nar .byte (nI (48 + ((-x0).toNatClampNeg) / 10))) := ⟨_, rfl⟩
      have hp := hp σ30009 eσ30009
      have hP : va_P D vwCl (WB k ad n (σ30009)) H := by rw [eσ30009]; exact hP
      have hD : va_D A (WB k ad n (σ30009)) := by rw [eσ30009]; exact hD
      exact B_104 v30006 x6 (σ30009) _ _ _  hP hD hS (lv_sub hl [2, 0, 3] rfl) hp
  have B_22 : ∀ (n_22 : Nat) (x0 : Int32) (x5 : Int32) (x6 : Int32) (σ : Mem) (H : Heap) (locs : List Loc) (ls : Array Slot), va_P D vwCl (WB k ad n (σ)) H → va_D A (WB k ad n (σ)) → va_S A s.heap H locs → lv_has ls 7 [(0, .int x0), (2, .ref (ad 1)), (5, .int x5), (6, .int x6)] → lp_4 (q_J6_getChars_ba4f3_22 ad n post (q_J6_getChars_ba4f3_72 ad n post)) n_22 x0 x5 x6 σ → W p l e rm_J6_getChars_ba4f3 s m args below meth c H locs 0 0 Q (F0 m 22 ls []) := by
    intro n_22
    induction n_22 with
    | zero => intro x0 x5 x6 σ H locs ls hP hD hS hl hp; exact hp.elim
    | succ n_22 ih_22 =>
      intro x0 x5 x6 σ H locs ls hP hD hS hl hp
      have hp : q_J6_getChars_ba4f3_22 ad n post (q_J6_getChars_ba4f3_72 ad n post) (lp_4 (q_J6_getChars_ba4f3_22 ad n post (q_J6_getChars_ba4f3_72 ad n post)) n_22) x0 x5 x6 σ := hp
      unfold q_J6_getChars_ba4f3_22 at hp
      refine lv_iload_n hx hb dJ6_getChars_ba4f3_22 rfl (lv_at hl 0 rfl) ?_
      refine lv_bipush (v := (-100)) hx hb dJ6_getChars_ba4f3_23 (by decide) ?_
      refine lv_icmp_gt (tgt := 72) hx hb dJ6_getChars_ba4f3_25 (by decide) (fun c20001 => ?_) (fun c20001 => ?_)
      · have hp := hp.1 c20001
        exact B_72 x0 x5 x6 (σ) _ _ _  hP hD hS (lv_sub hl [0, 1, 2, 3] rfl) hp
      · have hp := hp.2 c20001
        refine lv_iload_n hx hb dJ6_getChars_ba4f3_28 rfl (lv_at hl 0 rfl) ?_
        refine lv_bipush (v := 100) hx hb dJ6_getChars_ba4f3_29 (by decide) ?_
        refine lv_idiv hx hb dJ6_getChars_ba4f3_31 (by decide) ?_
        refine lv_topi (fun v20002 ev20002 => ?_)
        have hp := hp v20002 ev20002
        refine lv_istore_n (lv' := [(3, .int v20002), (0, .int x0), (2, .ref (ad 1)), (5, .int x5), (6, .int x6)]) hx hb dJ6_getChars_ba4f3_32 rfl hl (by decide) rfl (fun ls hl => ?_)
        refine lv_iload_n hx hb dJ6_getChars_ba4f3_33 rfl (lv_at hl 0 rfl) ?_
        refine lv_bipush (v := 100) hx hb dJ6_getChars_ba4f3_34 (by decide) ?_
        refine lv_imul hx hb dJ6_getChars_ba4f3_36 ?_
        refine lv_iload_n hx hb dJ6_getChars_ba4f3_37 rfl (lv_at hl 1 rfl) ?_
        refine lv_isub hx hb dJ6_getChars_ba4f3_38 ?_
        refine lv_topi (fun v20003 ev20003 => ?_)
        have hp := hp v20003 ev20003
        refine lv_istore (lv' := [(4, .int v20003), (3, .int v20002), (0, .int x0), (2, .ref (ad 1)), (5, .int x5), (6, .int x6)]) hx hb dJ6_getChars_ba4f3_39 hl (by decide) rfl (fun ls hl => ?_)
        refine lv_iload_n hx hb dJ6_getChars_ba4f3_41 rfl (lv_at hl 1 rfl) ?_
        refine lv_istore_n (lv' := [(0, .int v20002), (4, .int v20003), (3, .int v20002), (2, .ref (ad 1)), (5, .int x5), (6, .int x6)]) hx hb dJ6_getChars_ba4f3_42 rfl hl (by decide) rfl (fun ls hl => ?_)
        refine lv_aload_n hx hb dJ6_getChars_ba4f3_43 rfl (lv_at hl 3 rfl) ?_
        obtain ⟨v20004, ev20004⟩ : ∃ z : Int32, z = x5 + (-1) := ⟨_, rfl⟩
        have hp := hp v20004 ev20004
        refine lv_iinc (v := v20004) (lv' := [(5, .int v20004), (0, .int v20002), (4, .int v20003), (3, .int v20002), (2, .ref (ad 1)), (6, .int x6)]) hx hb dJ6_getChars_ba4f3_44 hl (k := 4) rfl (by rw [ev20004]; rfl) (by decide) rfl (fun ls hl => ?_)
        refine lv_iload hx hb dJ6_getChars_ba4f3_47 (lv_at hl 0 rfl) ?_
        refine va_gets hx hb hG.2.2.2.2.2.2.2.1.1 hS hown hf_83 (fun _ h9 => h9) dJ6_getChars_ba4f3_49 ?_
        refine lv_iload hx hb dJ6_getChars_ba4f3_52 (lv_at hl 2 rfl) ?_
        obtain ⟨h20005, hp⟩ := hp
        refine va_tb hx hb hG.2.2.2.2.2.2.2.1.2 hS h20005 rfl dJ6_getChars_ba4f3_54 ?_
        obtain ⟨h20006, hp⟩ := hp
        refine va_bast hx hb hK hP hD hS 1 4 rfl rfl h20006 dJ6_getChars_ba4f3_55 (fun H locs hP hD hS => ?_)
        obtain ⟨σ20007, eσ20007⟩ : ∃ z : Mem, z = mst (σ) 1 v20004.toNatClampNeg (vp_nar .byte (nI (48 + v20003.toNatClampNeg % 10))) := ⟨_, rfl⟩
        have hp := hp σ20007 eσ20007
        have hP : va_P D vwCl (WB k ad n (σ20007)) H := by rw [eσ20007]; exact hP
        have hD : va_D A (WB k ad n (σ20007)) := by rw [eσ20007]; exact hD
        refine lv_aload_n hx hb dJ6_getChars_ba4f3_56 rfl (lv_at hl 4 rfl) ?_
        obtain ⟨v20008, ev20008⟩ : ∃ z : Int32, z = v20004 + (-1) := ⟨_, rfl⟩
        have hp := hp v20008 ev20008
        refine lv_iinc (v := v20008) (lv' := [(5, .int v20008), (0, .int v20002), (4, .int v20003), (3, .int v20002), (2, .ref (ad 1)), (6, .int x6)]) hx hb dJ6_getChars_ba4f3_57 hl (k := 0) rfl (by rw [ev20008]; rfl) (by decide) rfl (fun ls hl => ?_)
        refine lv_iload hx hb dJ6_getChars_ba4f3_60 (lv_at hl 0 rfl) ?_
        refine va_gets hx hb hG.2.2.2.2.2.2.2.2.1.1 hS hown hf_87 (fun _ h9 => h9) dJ6_getChars_ba4f3_62 ?_
        refine lv_iload hx hb dJ6_getChars_ba4f3_65 (lv_at hl 2 rfl) ?_
        obtain ⟨h20009, hp⟩ := hp
        refine va_tb hx hb hG.2.2.2.2.2.2.2.2.1.2 hS h20009 rfl dJ6_getChars_ba4f3_67 ?_
        obtain ⟨h20010, hp⟩ := hp
        refine va_bast hx hb hK hP hD hS 1 4 rfl rfl h20010 dJ6_getChars_ba4f3_68 (fun H locs hP hD hS => ?_)
        obtain ⟨σ20011, eσ20011⟩ : ∃ z : Mem, z = mst (σ20007) 1 v20008.toNatClampNeg (vp_nar .byte (nI (48 + v20003.toNatClampNeg / 10))) := ⟨_, rfl⟩
        have hp := hp σ20011 eσ20011
        have hP : va_P D vwCl (WB k ad n (σ20011)) H := by rw [eσ20011]; exact hP
        have hD : va_D A (WB k ad n (σ20011)) := by rw [eσ20011]; exact hD
        refine lv_goto (tgt := 22) hx hb dJ6_getChars_ba4f3_69 (by decide) ?_
        exact ih_22 v20002 v20008 x6 (σ20011) _ _ _  hP hD hS (lv_sub hl [1, 4, 0, 5] rfl) hp
  have B_12 : ∀ (s0 : Int32) (x0 : Int32) (x5 : Int32) (σ : Mem) (H : Heap) (locs : List Loc) (ls : Array Slot), va_P D vwCl (WB k ad n (σ)) H → va_D A (WB k ad n (σ)) → va_S A s.heap H locs → lv_has ls 7 [(0, .int x0), (2, .ref (ad 1)), (5, .int x5)] → (q_J6_getChars_ba4f3_12 ad n post) s0 x0 x5 σ → W p l e rm_J6_getChars_ba4f3 s m args below meth c H locs 0 0 Q (F0 m 12 ls [.int s0]) := by
    intro s0 x0 x5 σ H locs ls hP hD hS hl hp
    unfold q_J6_getChars_ba4f3_12 at hp
    refine lv_istore (lv' := [(6, .int s0), (0, .int x0), (2, .ref (ad 1)), (5, .int x5)]) hx hb dJ6_getChars_ba4f3_12 hl (by decide) rfl (fun ls hl => ?_)
    refine lv_iload hx hb dJ6_getChars_ba4f3_14 (lv_at hl 0 rfl) ?_
    refine lv_if_ne (tgt := 22) hx hb dJ6_getChars_ba4f3_16 (by decide) (fun c10001 => ?_) (fun c10001 => ?_)
    · have hp := hp.1 c10001
      obtain ⟨n9, hp⟩ := hp
      exact B_22 n9 x0 x5 s0 (σ) _ _ _  hP hD hS (lv_sub hl [1, 2, 3, 0] rfl) hp
    · have hp := hp.2 c10001
      refine lv_iload_n hx hb dJ6_getChars_ba4f3_19 rfl (lv_at hl 1 rfl) ?_
      refine lv_ineg hx hb dJ6_getChars_ba4f3_20 ?_
      refine lv_topi (fun v10002 ev10002 => ?_)
      have hp := hp v10002 ev10002
      refine lv_istore_n (lv' := [(0, .int v10002), (6, .int s0), (2, .ref (ad 1)), (5, .int x5)]) hx hb dJ6_getChars_ba4f3_21 rfl hl (by decide) rfl (fun ls hl => ?_)
      obtain ⟨n9, hp⟩ := hp
      exact B_22 n9 v10002 x5 s0 (σ) _ _ _  hP hD hS (lv_sub hl [0, 2, 3, 1] rfl) hp
  refine lv_iload_n hx hb dJ6_getChars_ba4f3_0 rfl (lv_at hl 1 rfl) ?_
  refine lv_istore (lv' := [(5, .int p2), (0, .int p1), (1, .int p2), (2, .ref (ad 1))]) hx hb dJ6_getChars_ba4f3_1 hl (by decide) rfl (fun ls hl => ?_)
  refine lv_iload_n hx hb dJ6_getChars_ba4f3_3 rfl (lv_at hl 1 rfl) ?_
  refine lv_if_ge (tgt := 11) hx hb dJ6_getChars_ba4f3_4 (by decide) (fun c1 => ?_) (fun c1 => ?_)
  · have hp := hp.1 c1
    refine lv_iconst (v := 0) hx hb dJ6_getChars_ba4f3_11 (by decide) ?_
    exact B_12 0 p1 p2 (σ) _ _ _  hP hD hS (lv_sub hl [1, 3, 0] rfl) hp
  · have hp := hp.2 c1
    refine lv_iconst (v := 1) hx hb dJ6_getChars_ba4f3_7 (by decide) ?_
    refine lv_goto (tgt := 12) hx hb dJ6_getChars_ba4f3_8 (by decide) ?_
    exact B_12 1 p1 p2 (σ) _ _ _  hP hD hS (lv_sub hl [1, 3, 0] rfl) hp
def q_J5_append_c97b9_48 (ad : Nat → Nat) (n : Nat) (post : Nat → Mem → Prop)  (x3 : Int32) (σ : Mem) : Prop := (∀ σ1001 : Mem, σ1001 = mst (σ) 0 3 x3 → post (ad 0) (σ1001))
def q_J5_append_c97b9 (ad : Nat → Nat) (n : Nat) (post : Nat → Mem → Prop) (p1 : Int32) (σ : Mem) : Prop := (∀ v1 : Int32, v1 = ((σ) 0 3) → (q_J6_stringSize_0f7a4 (fun (r2 : Int32) (σ3 : Mem) => (∀ v4 : Int32, v4 = (v1 + r2) → (q_J5_ensureCapacityInternal_d00df ad n (fun (σ6 : Mem) => (q_J5_isLatin1_aae02 ad n (fun (r7 : Int32) (σ8 : Mem) => ((r7 = 0 → False) ∧ (¬ (r7 = 0) → (q_J6_getChars_ba4f3 ad n (fun (r10 : Int32) (σ11 : Mem) => (q_J5_append_c97b9_48 ad n post) v4 (σ11)) p1 v4 (σ8))))) (σ6))) v4 (σ)))) p1 (σ)))
abbrev rm_J5_append_c97b9 : Room := { frames := 1, cells := 0, slots := 0, locals := 26 }
abbrev wq_J5_append_c97b9 : List Cond := Cond.code yJ5_append_c97b9 cJ5_append_c97b9 4 (some (.object "java/lang/AbstractStringBuilder")) :: wALL
set_option maxHeartbeats 4000000 in
set_option maxRecDepth 100000 in
theorem c_J5_append_c97b9 (l : Launch) (D : va_G) (k ad : Nat → Nat) (n : Nat) {sz : Nat} {σ : Mem} {p1 : Int32} {post : Nat → Mem → Prop} (hp : q_J5_append_c97b9 ad n post p1 σ) : Met l yJ5_append_c97b9 wq_J5_append_c97b9 rm_J5_append_c97b9 (va_Pc [.ref (ad 0), .int p1] (Pw D k (WB k ad n (σ)) sz)) (va_Qr (fun z : Nat × Mem => post z.1 z.2) (fun z a t => a = z.1 ∧ Bw D (WB k ad n (σ)) sz (WB k ad n z.2) t) (va_A (WB k ad n (σ)) sz)) 0 0 (va_A (WB k ad n (σ)) sz) := by
  refine fw_r (Or.inl ⟨_, rfl⟩) (wf := fun u : Mem => WB k ad n u) (by decide) rfl (Nat.le_of_ble_eq_true rfl) ?_
  intro p e s m args below meth c A Q ls hC hP hD hl hret
  obtain ⟨⟨hx, hb, hml, hown, hts⟩, hG, hA⟩ := id hC
  have hK := hG.1
  have hS : va_S A s.heap s.heap [] := va_S.rf
  have hin_J4 : ∀ w ∈ u_ws RJ4 TJ4 4, w ∈ wq_J5_append_c97b9 := fun w h => List.mem_cons_of_mem _ (iU_J4 w h)
  have hf_79 := hts _ (List.mem_cons_of_mem _ A_382)
  have hf_15 := hts _ (List.mem_cons_of_mem _ A_315)
  have hl : lv_has ls 4 [(0, .ref (ad 0)), (1, .int p1)] := hl
  have hown : s.vm.findClass RJ5 = some m.cls := hown
  unfold q_J5_append_c97b9 at hp
  have B_48 : ∀ (x3 : Int32) (σ : Mem) (H : Heap) (locs : List Loc) (ls : Array Slot), va_P D vwCl (WB k ad n (σ)) H → va_D A (WB k ad n (σ)) → va_S A s.heap H locs → lv_has ls 4 [(0, .ref (ad 0)), (3, .int x3)] → (q_J5_append_c97b9_48 ad n post) x3 σ → W p l e rm_J5_append_c97b9 s m args below meth c H locs 0 0 Q (F0 m 48 ls []) := by
    intro x3 σ H locs ls hP hD hS hl hp
    unfold q_J5_append_c97b9_48 at hp
    refine lv_aload_n hx hb dJ5_append_c97b9_48 rfl (lv_at hl 0 rfl) ?_
    refine lv_iload_n hx hb dJ5_append_c97b9_49 rfl (lv_at hl 1 rfl) ?_
    refine va_put (D := D) (ci := 1) (v := .int x3) (ty := .int) (C := RJ4) (T := TJ4) (N := 4) hx hb hts hin_J4 tyJ4 tyJ4_ok nmJ4 hown hK hP hD hS 0 rfl rfl 3 (by decide) hf_79 (fun _ h9 => h9) rfl (by decide +kernel) rfl rfl (Nat.le_of_ble_eq_true rfl) dJ5_append_c97b9_50 (fun H locs hP hD hS => ?_)
    obtain ⟨σ10001, eσ10001⟩ : ∃ z : Mem, z = mst (σ) 0 3 x3 := ⟨_, rfl⟩
    have hp := hp σ10001 eσ10001
    have hP : va_P D vwCl (WB k ad n (σ10001)) H := by rw [eσ10001]; exact hP
    have hD : va_D A (WB k ad n (σ10001)) := by rw [eσ10001]; exact hD
    refine lv_aload_n hx hb dJ5_append_c97b9_53 rfl (lv_at hl 0 rfl) ?_
    exact hret (ad 0) (σ10001) _ _ _ _ _ _ dJ5_append_c97b9_54 hP hD hS (Nat.le_of_ble_eq_true rfl) (Nat.le_of_ble_eq_true rfl) hp
  refine lv_aload_n hx hb dJ5_append_c97b9_0 rfl (lv_at hl 0 rfl) ?_
  refine va_get (D := D) (ci := 1) (C := RJ4) (T := TJ4) (N := 4) hx hb hts hin_J4 hown hK hP 0 rfl rfl 3 (by decide) hf_79 (fun _ h9 => h9) rfl dJ5_append_c97b9_1 ?_
  refine lv_topi (fun v1 ev1 => ?_)
  have hp := hp v1 ev1
  refine lv_istore_n (lv' := [(2, .int v1), (0, .ref (ad 0)), (1, .int p1)]) hx hb dJ5_append_c97b9_4 rfl hl (by decide) rfl (fun ls hl => ?_)
  refine lv_iload_n hx hb dJ5_append_c97b9_5 rfl (lv_at hl 0 rfl) ?_
  refine lv_iload_n hx hb dJ5_append_c97b9_6 rfl (lv_at hl 2 rfl) ?_
  refine fw_ciS (As := [.int p1]) (rest := [.int v1]) hC (c_J6_stringSize_0f7a4 l D k hp) (va_cwS 1 hts (gA_S A_438 A_439 A_150 A_419) rfl rfl rfl (by decide +kernel) ⟨Nat.le_of_ble_eq_true rfl, Nat.le_of_ble_eq_true rfl⟩) rfl hl.1 rfl (Nat.le_of_ble_eq_true rfl) dJ5_append_c97b9_7 ⟨Nat.le_of_ble_eq_true rfl, Nat.le_of_ble_eq_true rfl⟩ P_nil D_nil hS (Jn.pure (w0 := fun _ : Mem => []) hP hD) (fun r2 σ3 H locs hP hD hS hp => ?_)
  have hP : va_P D vwCl (WB k ad n (σ)) H := hP
  have hD : va_D A (WB k ad n (σ)) := hD
  refine lv_iadd hx hb dJ5_append_c97b9_10 ?_
  refine lv_topi (fun v4 ev4 => ?_)
  have hp := hp v4 ev4
  refine lv_istore_n (lv' := [(3, .int v4), (2, .int v1), (0, .ref (ad 0)), (1, .int p1)]) hx hb dJ5_append_c97b9_11 rfl hl (by decide) rfl (fun ls hl => ?_)
  refine lv_aload_n hx hb dJ5_append_c97b9_12 rfl (lv_at hl 2 rfl) ?_
  refine lv_iload_n hx hb dJ5_append_c97b9_13 rfl (lv_at hl 0 rfl) ?_
  refine fw_cvU (As := [.int v4]) (rest := []) hC (c_J5_ensureCapacityInternal_d00df l D k ad n hp) (va_cwU 1 hts (gA_U (x := ⟨"java/lang/AbstractStringBuilder", "ensureCapacityInternal", "(I)V"⟩) (y := yJ5_ensureCapacityInternal_d00df) (owner := "java/lang/AbstractStringBuilder") A_401 A_402 A_403 A_404 A_322 A_354) rfl rfl rfl rfl ⟨by decide, by decide, by decide +kernel⟩ ⟨Nat.le_of_ble_eq_true rfl, Nat.le_of_ble_eq_true rfl⟩) (va_recv hK hP (ci := 1) (q0 := 0) rfl rfl) rfl hl.1 rfl (Nat.le_of_ble_eq_true rfl) dJ5_append_c97b9_14 ⟨Nat.le_of_ble_eq_true rfl, Nat.le_of_ble_eq_true rfl⟩ hP hD hS Jn.same (fun σ6 H locs hP hD hS hp => ?_)
  have hP : va_P D vwCl (WB k ad n (σ6)) H := hP
  have hD : va_D A (WB k ad n (σ6)) := hD
  refine lv_aload_n hx hb dJ5_append_c97b9_17 rfl (lv_at hl 2 rfl) ?_
  refine fw_ciU (As := []) (rest := []) hC (c_J5_isLatin1_aae02 l D k ad n hp) (va_cwU 0 hts (gA_U (x := ⟨"java/lang/AbstractStringBuilder", "isLatin1", "()Z"⟩) (y := yJ5_isLatin1_aae02) (owner := "java/lang/AbstractStringBuilder") A_383 A_384 A_385 A_386 A_322 A_355) rfl rfl rfl rfl ⟨by decide, by decide, by decide +kernel⟩ ⟨Nat.le_of_ble_eq_true rfl, Nat.le_of_ble_eq_true rfl⟩) (va_recv hK hP (ci := 1) (q0 := 0) rfl rfl) rfl hl.1 rfl (Nat.le_of_ble_eq_true rfl) dJ5_append_c97b9_18 ⟨Nat.le_of_ble_eq_true rfl, Nat.le_of_ble_eq_true rfl⟩ hP hD hS Jn.same (fun r7 σ8 H locs hP hD hS hp => ?_)
  have hP : va_P D vwCl (WB k ad n (σ8)) H := hP
  have hD : va_D A (WB k ad n (σ8)) := hD
  refine lv_if_eq (tgt := 37) hx hb dJ5_append_c97b9_21 (by decide) (fun c9 => ?_) (fun c9 => ?_)
  · have hp := hp.1 c9
    refine lv_iload_n hx hb dJ5_append_c97b9_37 rfl (lv_at hl 3 rfl) ?_
    refine lv_iload_n hx hb dJ5_append_c97b9_38 rfl (lv_at hl 1 rfl) ?_
    refine lv_iload_n hx hb dJ5_append_c97b9_39 rfl (lv_at hl 0 rfl) ?_
    refine lv_aload_n hx hb dJ5_append_c97b9_40 rfl (lv_at hl 2 rfl) ?_
    refine va_get (D := D) (ci := 1) (C := RJ4) (T := TJ4) (N := 4) hx hb hts hin_J4 hown hK hP 0 rfl rfl 0 (by decide) hf_15 (fun _ h9 => h9) rfl dJ5_append_c97b9_41 ?_
    exact hp.elim
  · have hp := hp.2 c9
    refine lv_iload_n hx hb dJ5_append_c97b9_24 rfl (lv_at hl 3 rfl) ?_
    refine lv_iload_n hx hb dJ5_append_c97b9_25 rfl (lv_at hl 0 rfl) ?_
    refine lv_aload_n hx hb dJ5_append_c97b9_26 rfl (lv_at hl 2 rfl) ?_
    refine va_get (D := D) (ci := 1) (C := RJ4) (T := TJ4) (N := 4) hx hb hts hin_J4 hown hK hP 0 rfl rfl 0 (by decide) hf_15 (fun _ h9 => h9) rfl dJ5_append_c97b9_27 ?_
    refine fw_ciS (As := [.int p1, .int v4, .ref (ad 1)]) (rest := []) hC (c_J6_getChars_ba4f3 l D k ad n hp) (va_cwS 3 hts (gA_S A_440 A_441 A_150 A_420) rfl rfl rfl (by decide +kernel) ⟨Nat.le_of_ble_eq_true rfl, Nat.le_of_ble_eq_true rfl⟩) rfl hl.1 rfl (Nat.le_of_ble_eq_true rfl) dJ5_append_c97b9_30 ⟨Nat.le_of_ble_eq_true rfl, Nat.le_of_ble_eq_true rfl⟩ hP hD hS Jn.same (fun r10 σ11 H locs hP hD hS hp => ?_)
    have hP : va_P D vwCl (WB k ad n (σ11)) H := hP
    have hD : va_D A (WB k ad n (σ11)) := hD
    refine lv_pop hx hb dJ5_append_c97b9_33 rfl ?_
    refine lv_goto (tgt := 48) hx hb dJ5_append_c97b9_34 (by decide) ?_
    exact B_48 v4 (σ11) _ _ _  hP hD hS (lv_sub hl [2, 0] rfl) hp
def q_J4_append_bf812 (ad : Nat → Nat) (n : Nat) (post : Nat → Mem → Prop) (p1 : Int32) (σ : Mem) : Prop := (q_J5_append_c97b9 ad n (fun (r1 : Nat) (σ2 : Mem) => post (ad 0) (σ2)) p1 (σ))
abbrev rm_J4_append_bf812 : Room := { frames := 2, cells := 0, slots := 0, locals := 49 }
abbrev wq_J4_append_bf812 : List Cond := Cond.code yJ4_append_bf812 cJ4_append_bf812 2 (some (.object "java/lang/StringBuilder")) :: wALL
set_option maxHeartbeats 4000000 in
set_option maxRecDepth 100000 in
theorem c_J4_append_bf812 (l : Launch) (D : va_G) (k ad : Nat → Nat) (n : Nat) {sz : Nat} {σ : Mem} {p1 : Int32} {post : Nat → Mem → Prop} (hp : q_J4_append_bf812 ad n post p1 σ) : Met l yJ4_append_bf812 wq_J4_append_bf812 rm_J4_append_bf812 (va_Pc [.ref (ad 0), .int p1] (Pw D k (WB k ad n (σ)) sz)) (va_Qr (fun z : Nat × Mem => post z.1 z.2) (fun z a t => a = z.1 ∧ Bw D (WB k ad n (σ)) sz (WB k ad n z.2) t) (va_A (WB k ad n (σ)) sz)) 0 0 (va_A (WB k ad n (σ)) sz) := by
  refine fw_r (Or.inl ⟨_, rfl⟩) (wf := fun u : Mem => WB k ad n u) (by decide) rfl (Nat.le_of_ble_eq_true rfl) ?_
  intro p e s m args below meth c A Q ls hC hP hD hl hret
  obtain ⟨⟨hx, hb, hml, hown, hts⟩, hG, hA⟩ := id hC
  have hK := hG.1
  have hS : va_S A s.heap s.heap [] := va_S.rf
  have hl : lv_has ls 2 [(0, .ref (ad 0)), (1, .int p1)] := hl
  have hown : s.vm.findClass RJ4 = some m.cls := hown
  unfold q_J4_append_bf812 at hp
  refine lv_aload_n hx hb dJ4_append_bf812_0 rfl (lv_at hl 0 rfl) ?_
  refine lv_iload_n hx hb dJ4_append_bf812_1 rfl (lv_at hl 1 rfl) ?_
  refine fw_crSU (As := [.int p1]) (rest := []) hC (c_J5_append_c97b9 l D k ad n hp) (hK.1 1 _ rfl).2 (va_cwSU 1 hts (gA_SU A_445 A_446 A_416 A_447 A_322 A_444) rfl rfl rfl ⟨by decide, by decide +kernel⟩ ⟨Nat.le_of_ble_eq_true rfl, Nat.le_of_ble_eq_true rfl⟩) (va_recv hK hP (ci := 1) (q0 := 0) rfl rfl) rfl hl.1 rfl (Nat.le_of_ble_eq_true rfl) dJ4_append_bf812_2 ⟨Nat.le_of_ble_eq_true rfl, Nat.le_of_ble_eq_true rfl⟩ hP hD hS Jn.same (fun r1 σ2 H locs hP hD hS hp => ?_)
  have hP : va_P D vwCl (WB k ad n (σ2)) H := hP
  have hD : va_D A (WB k ad n (σ2)) := hD
  refine lv_pop hx hb dJ4_append_bf812_5 rfl ?_
  refine lv_aload_n hx hb dJ4_append_bf812_6 rfl (lv_at hl 0 rfl) ?_
  exact hret (ad 0) (σ2) _ _ _ _ _ _ dJ4_append_bf812_7 hP hD hS (Nat.le_of_ble_eq_true rfl) (Nat.le_of_ble_eq_true rfl) hp
def q_J5_length_8abf5 (ad : Nat → Nat) (n : Nat) (post : Int32 → Mem → Prop) (σ : Mem) : Prop := post ((σ) 0 3) (σ)
abbrev rm_J5_length_8abf5 : Room := { frames := 0, cells := 0, slots := 0, locals := 0 }
abbrev wq_J5_length_8abf5 : List Cond := Cond.code yJ5_length_8abf5 cJ5_length_8abf5 1 (some .int) :: wALL
set_option maxHeartbeats 4000000 in
set_option maxRecDepth 100000 in
theorem c_J5_length_8abf5 (l : Launch) (D : va_G) (k ad : Nat → Nat) (n : Nat) {sz : Nat} {σ : Mem} {post : Int32 → Mem → Prop} (hp : q_J5_length_8abf5 ad n post σ) : Met l yJ5_length_8abf5 wq_J5_length_8abf5 rm_J5_length_8abf5 (va_Pc [.ref (ad 0)] (Pw D k (WB k ad n (σ)) sz)) (va_Qi post (fun u => Bw D (WB k ad n (σ)) sz (WB k ad n u)) (va_A (WB k ad n (σ)) sz)) 0 0 (va_A (WB k ad n (σ)) sz) := by
  refine fw_i (wf := fun u : Mem => WB k ad n u) (by decide) rfl (Nat.le_of_ble_eq_true rfl) ?_
  intro p e s m args below meth c A Q ls hC hP hD hl hret
  obtain ⟨⟨hx, hb, hml, hown, hts⟩, hG, hA⟩ := id hC
  have hK := hG.1
  have hS : va_S A s.heap s.heap [] := va_S.rf
  have hin_J4 : ∀ w ∈ u_ws RJ4 TJ4 4, w ∈ wq_J5_length_8abf5 := fun w h => List.mem_cons_of_mem _ (iU_J4 w h)
  have hf_79 := hts _ (List.mem_cons_of_mem _ A_382)
  have hl : lv_has ls 1 [(0, .ref (ad 0))] := hl
  have hown : s.vm.findClass RJ5 = some m.cls := hown
  unfold q_J5_length_8abf5 at hp
  refine lv_aload_n hx hb dJ5_length_8abf5_0 rfl (lv_at hl 0 rfl) ?_
  refine va_get (D := D) (ci := 1) (C := RJ4) (T := TJ4) (N := 4) hx hb hts hin_J4 hown hK hP 0 rfl rfl 3 (by decide) hf_79 (fun _ h9 => h9) rfl dJ5_length_8abf5_1 ?_
  exact hret ((σ) 0 3) (σ) _ _ _ _ _ _ dJ5_length_8abf5_4 rfl hP hD hS (Nat.le_of_ble_eq_true rfl) (Nat.le_of_ble_eq_true rfl) hp
def q_J5_getValue_6d5f1 (ad : Nat → Nat) (n : Nat) (post : Nat → Mem → Prop) (σ : Mem) : Prop := post (ad 1) (σ)
abbrev rm_J5_getValue_6d5f1 : Room := { frames := 0, cells := 0, slots := 0, locals := 0 }
abbrev wq_J5_getValue_6d5f1 : List Cond := Cond.code yJ5_getValue_6d5f1 cJ5_getValue_6d5f1 1 (some (.array .byte)) :: wALL
set_option maxHeartbeats 4000000 in
set_option maxRecDepth 100000 in
theorem c_J5_getValue_6d5f1 (l : Launch) (D : va_G) (k ad : Nat → Nat) (n : Nat) {sz : Nat} {σ : Mem} {post : Nat → Mem → Prop} (hp : q_J5_getValue_6d5f1 ad n post σ) : Met l yJ5_getValue_6d5f1 wq_J5_getValue_6d5f1 rm_J5_getValue_6d5f1 (va_Pc [.ref (ad 0)] (Pw D k (WB k ad n (σ)) sz)) (va_Qr (fun z : Nat × Mem => post z.1 z.2) (fun z a t => a = z.1 ∧ Bw D (WB k ad n (σ)) sz (WB k ad n z.2) t) (va_A (WB k ad n (σ)) sz)) 0 0 (va_A (WB k ad n (σ)) sz) := by
  refine fw_r (Or.inr ⟨_, rfl⟩) (wf := fun u : Mem => WB k ad n u) (by decide) rfl (Nat.le_of_ble_eq_true rfl) ?_
  intro p e s m args below meth c A Q ls hC hP hD hl hret
  obtain ⟨⟨hx, hb, hml, hown, hts⟩, hG, hA⟩ := id hC
  have hK := hG.1
  have hS : va_S A s.heap s.heap [] := va_S.rf
  have hin_J4 : ∀ w ∈ u_ws RJ4 TJ4 4, w ∈ wq_J5_getValue_6d5f1 := fun w h => List.mem_cons_of_mem _ (iU_J4 w h)
  have hf_15 := hts _ (List.mem_cons_of_mem _ A_315)
  have hl : lv_has ls 1 [(0, .ref (ad 0))] := hl
  have hown : s.vm.findClass RJ5 = some m.cls := hown
  unfold q_J5_getValue_6d5f1 at hp
  refine lv_aload_n hx hb dJ5_getValue_6d5f1_0 rfl (lv_at hl 0 rfl) ?_
  refine va_get (D := D) (ci := 1) (C := RJ4) (T := TJ4) (N := 4) hx hb hts hin_J4 hown hK hP 0 rfl rfl 0 (by decide) hf_15 (fun _ h9 => h9) rfl dJ5_getValue_6d5f1_1 ?_
  exact hret (ad 1) (σ) _ _ _ _ _ _ dJ5_getValue_6d5f1_4 hP hD hS (Nat.le_of_ble_eq_true rfl) (Nat.le_of_ble_eq_true rfl) hp
def q_J4_length_8abf5 (ad : Nat → Nat) (n : Nat) (post : Int32 → Mem → Prop) (σ : Mem) : Prop := (q_J5_length_8abf5 ad n (fun (r1 : Int32) (σ2 : Mem) => post r1 (σ2)) (σ))
abbrev rm_J4_length_8abf5 : Room := { frames := 1, cells := 0, slots := 0, locals := 20 }
abbrev wq_J4_length_8abf5 : List Cond := Cond.code yJ4_length_8abf5 cJ4_length_8abf5 1 (some .int) :: wALL
set_option maxHeartbeats 4000000 in
set_option maxRecDepth 100000 in
theorem c_J4_length_8abf5 (l : Launch) (D : va_G) (k ad : Nat → Nat) (n : Nat) {sz : Nat} {σ : Mem} {post : Int32 → Mem → Prop} (hp : q_J4_length_8abf5 ad n post σ) : Met l yJ4_length_8abf5 wq_J4_length_8abf5 rm_J4_length_8abf5 (va_Pc [.ref (ad 0)] (Pw D k (WB k ad n (σ)) sz)) (va_Qi post (fun u => Bw D (WB k ad n (σ)) sz (WB k ad n u)) (va_A (WB k ad n (σ)) sz)) 0 0 (va_A (WB k ad n (σ)) sz) := by
  refine fw_i (wf := fun u : Mem => WB k ad n u) (by decide) rfl (Nat.le_of_ble_eq_true rfl) ?_
  intro p e s m args below meth c A Q ls hC hP hD hl hret
  obtain ⟨⟨hx, hb, hml, hown, hts⟩, hG, hA⟩ := id hC
  have hK := hG.1
  have hS : va_S A s.heap s.heap [] := va_S.rf
  have hl : lv_has ls 1 [(0, .ref (ad 0))] := hl
  have hown : s.vm.findClass RJ4 = some m.cls := hown
  unfold q_J4_length_8abf5 at hp
  refine lv_aload_n hx hb dJ4_length_8abf5_0 rfl (lv_at hl 0 rfl) ?_
  refine fw_ciSU (As := []) (rest := []) hC (c_J5_length_8abf5 l D k ad n hp) (hK.1 1 _ rfl).2 (va_cwSU 0 hts (gA_SU A_452 A_453 A_416 A_454 A_322 A_450) rfl rfl rfl ⟨by decide, by decide +kernel⟩ ⟨Nat.le_of_ble_eq_true rfl, Nat.le_of_ble_eq_true rfl⟩) (va_recv hK hP (ci := 1) (q0 := 0) rfl rfl) rfl hl.1 rfl (Nat.le_of_ble_eq_true rfl) dJ4_length_8abf5_1 ⟨Nat.le_of_ble_eq_true rfl, Nat.le_of_ble_eq_true rfl⟩ hP hD hS Jn.same (fun r1 σ2 H locs hP hD hS hp => ?_)
  have hP : va_P D vwCl (WB k ad n (σ2)) H := hP
  have hD : va_D A (WB k ad n (σ2)) := hD
  exact hret r1 (σ2) _ _ _ _ _ _ dJ4_length_8abf5_4 rfl hP hD hS (Nat.le_of_ble_eq_true rfl) (Nat.le_of_ble_eq_true rfl) hp
