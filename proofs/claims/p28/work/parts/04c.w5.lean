def q_X3_takesAway_151 (pm : Nat) (pa : Nat) (post : Int32 → Mem → Prop)  (s0 : Int32) (σ : Mem) : Prop := (bz s0 ∧ post s0 (σ))
def q_X3_takesAway_146 (pm : Nat) (pa : Nat) (post : Int32 → Mem → Prop)  (σ : Mem) : Prop := (q_X3_takesAway_151 pm pa post) 1 (σ)
def q_X3_takesAway_59 (pm : Nat) (pa : Nat) (post : Int32 → Mem → Prop)  (s0 : Int32) (σ : Mem) : Prop := (bz s0 ∧ post s0 (σ))
def q_X3_takesAway (pm : Nat) (pa : Nat) (post : Int32 → Mem → Prop) (p1 : Int32) (σ : Mem) : Prop := (vp_in p1 30 ∧ (∀ v2 : Int32, v2 = ((σ) 6 p1.toNatClampNeg) → (vp_in v2 5 ∧ (∀ v4 : Int32, v4 = ((σ) pa v2.toNatClampNeg) → (q_X2_isOfTwo (fun (r5 : Int32) (σ6 : Mem) => ((r5 ≠ 0 → (vp_in p1 30 ∧ (∀ v9 : Int32, v9 = ((σ6) 7 p1.toNatClampNeg) → (vp_in v9 5 ∧ (∀ v11 : Int32, v11 = ((σ6) pa v9.toNatClampNeg) → (q_X2_letsByOther (fun (r12 : Int32) (σ13 : Mem) => (vp_in v2 5 ∧ (∀ σ15 : Mem, σ15 = mst (σ13) pa v2.toNatClampNeg (v4 &&& r12) → (vp_in v2 5 ∧ (q_X2_letsByOther (fun (r17 : Int32) (σ18 : Mem) => (vp_in v9 5 ∧ (∀ σ20 : Mem, σ20 = mst (σ18) pa v9.toNatClampNeg (v11 &&& r17) → (vp_in v2 5 ∧ ((((σ20) pa v2.toNatClampNeg) ≠ v4 → (q_X3_takesAway_146 pm pa post) (σ20)) ∧ (((σ20) pa v2.toNatClampNeg) = v4 → (vp_in v9 5 ∧ ((((σ20) pa v9.toNatClampNeg) = v11 → (q_X3_takesAway_151 pm pa post) 0 (σ20)) ∧ (¬ (((σ20) pa v9.toNatClampNeg) = v11) → (q_X3_takesAway_146 pm pa post) (σ20)))))))))) p1 1 ((σ15) pa v2.toNatClampNeg) (σ15)))))) p1 0 v11 (σ6))))))) ∧ (r5 = 0 → (q_X2_letsAlone (fun (r25 : Int32) (σ26 : Mem) => (vp_in v2 5 ∧ (∀ σ28 : Mem, σ28 = mst (σ26) pa v2.toNatClampNeg (v4 &&& r25) → (vp_in v2 5 ∧ ((((σ28) pa v2.toNatClampNeg) = v4 → (q_X3_takesAway_59 pm pa post) 0 (σ28)) ∧ (¬ (((σ28) pa v2.toNatClampNeg) = v4) → (q_X3_takesAway_59 pm pa post) 1 (σ28))))))) p1 (σ6))))) p1 (σ))))))
abbrev rm_X3_takesAway : Room := { frames := 1, cells := 0, slots := 0, locals := 24 }
abbrev wq_X3_takesAway : List Cond := Cond.code yX3_takesAway cX3_takesAway 6 (some .boolean) :: wALL
set_option maxHeartbeats 4000000 in
set_option maxRecDepth 100000 in
theorem c_X3_takesAway_12 (l : Launch) (D : va_G) (k ad : Nat → Nat) {sz : Nat} {σ : Mem} {p1 : Int32} {post : Int32 → Mem → Prop} (hp : q_X3_takesAway 12 13 post p1 σ) : Met l yX3_takesAway wq_X3_takesAway rm_X3_takesAway (va_Pc [.ref (ad 12), .int p1] (Pw D k (W5 k ad (σ)) sz)) (va_Qi post (fun u => Bw D (W5 k ad (σ)) sz (W5 k ad u)) (va_A (W5 k ad (σ)) sz)) 0 0 (va_A (W5 k ad (σ)) sz) := by
  refine fw_i (wf := fun u : Mem => W5 k ad u) (by decide) rfl (Nat.le_of_ble_eq_true rfl) ?_
  intro p e s m args below meth c A Q ls hC hP hD hl hret
  obtain ⟨⟨hx, hb, hml, hown, hts⟩, hG, hA⟩ := id hC
  have hK := hG.1
  have hS : va_S A s.heap s.heap [] := va_S.rf
  have hin_X3 : ∀ w ∈ u_ws RX3 TX3 3, w ∈ wq_X3_takesAway := fun w h => List.mem_cons_of_mem _ (iU_X3 w h)
  have hf_15 := hts _ (List.mem_cons_of_mem _ A_100)
  have hin_X2 : ∀ w ∈ u_ws RX2 TX2 11, w ∈ wq_X3_takesAway := fun w h => List.mem_cons_of_mem _ (iU_X2 w h)
  have hf_56 := hts _ (List.mem_cons_of_mem _ A_102)
  have hf_9 := hts _ (List.mem_cons_of_mem _ A_99)
  have hf_66 := hts _ (List.mem_cons_of_mem _ A_103)
  have hl : lv_has ls 6 [(0, .ref (ad 12)), (1, .int p1)] := hl
  have hown : s.vm.findClass RX3 = some m.cls := hown
  unfold q_X3_takesAway at hp
  have B_151 : ∀ (s0 : Int32) (σ : Mem) (H : Heap) (locs : List Loc) (ls : Array Slot), va_P D vwCl (W5 k ad (σ)) H → va_D A (W5 k ad (σ)) → va_S A s.heap H locs → lv_has ls 6 [] → (q_X3_takesAway_151 12 13 post) s0 σ → W p l e rm_X3_takesAway s m args below meth c H locs 0 0 Q (F0 m 151 ls [.int s0]) := by
    intro s0 σ H locs ls hP hD hS hl hp
    unfold q_X3_takesAway_151 at hp
    exact hret s0 (σ) _ _ _ _ _ _ dX3_takesAway_151 hp.1.1 hP hD hS (Nat.le_of_ble_eq_true rfl) (Nat.le_of_ble_eq_true rfl) hp.2
  have B_146 : ∀  (σ : Mem) (H : Heap) (locs : List Loc) (ls : Array Slot), va_P D vwCl (W5 k ad (σ)) H → va_D A (W5 k ad (σ)) → va_S A s.heap H locs → lv_has ls 6 [] → (q_X3_takesAway_146 12 13 post)  σ → W p l e rm_X3_takesAway s m args below meth c H locs 0 0 Q (F0 m 146 ls []) := by
    intro  σ H locs ls hP hD hS hl hp
    unfold q_X3_takesAway_146 at hp
    refine lv_iconst (v := 1) hx hb dX3_takesAway_146 (by decide) ?_
    refine lv_goto (tgt := 151) hx hb dX3_takesAway_147 (by decide) ?_
    exact B_151 1 (σ) _ _ _  hP hD hS (lv_sub hl [] rfl) hp
  have B_59 : ∀ (s0 : Int32) (σ : Mem) (H : Heap) (locs : List Loc) (ls : Array Slot), va_P D vwCl (W5 k ad (σ)) H → va_D A (W5 k ad (σ)) → va_S A s.heap H locs → lv_has ls 6 [] → (q_X3_takesAway_59 12 13 post) s0 σ → W p l e rm_X3_takesAway s m args below meth c H locs 0 0 Q (F0 m 59 ls [.int s0]) := by
    intro s0 σ H locs ls hP hD hS hl hp
    unfold q_X3_takesAway_59 at hp
    exact hret s0 (σ) _ _ _ _ _ _ dX3_takesAway_59 hp.1.1 hP hD hS (Nat.le_of_ble_eq_true rfl) (Nat.le_of_ble_eq_true rfl) hp.2
  refine lv_aload_n hx hb dX3_takesAway_0 rfl (lv_at hl 0 rfl) ?_
  refine va_get (D := D) (ci := 7) (C := RX3) (T := TX3) (N := 3) hx hb hts hin_X3 hown hK hP 12 rfl rfl 0 (by decide) hf_15 (fun _ h9 => h9) rfl dX3_takesAway_1 ?_
  refine va_get (D := D) (ci := 6) (C := RX2) (T := TX2) (N := 11) hx hb hts hin_X2 hown hK hP 1 rfl rfl 4 (by decide) hf_56 (fun _ h9 => h9) rfl dX3_takesAway_4 ?_
  refine lv_iload_n hx hb dX3_takesAway_7 rfl (lv_at hl 1 rfl) ?_
  obtain ⟨h1, hp⟩ := hp
  refine va_iald hx hb hK hP 6 0 rfl rfl h1 dX3_takesAway_8 ?_
  refine lv_topi (fun v2 ev2 => ?_)
  have hp := hp v2 ev2
  refine lv_istore_n (lv' := [(2, .int v2), (0, .ref (ad 12)), (1, .int p1)]) hx hb dX3_takesAway_9 rfl hl (by decide) rfl (fun ls hl => ?_)
  refine lv_aload_n hx hb dX3_takesAway_10 rfl (lv_at hl 1 rfl) ?_
  refine va_get (D := D) (ci := 7) (C := RX3) (T := TX3) (N := 3) hx hb hts hin_X3 hown hK hP 12 rfl rfl 1 (by decide) hf_9 (fun _ h9 => h9) rfl dX3_takesAway_11 ?_
  refine lv_iload_n hx hb dX3_takesAway_14 rfl (lv_at hl 0 rfl) ?_
  obtain ⟨h3, hp⟩ := hp
  refine va_iald hx hb hK hP 13 0 rfl rfl h3 dX3_takesAway_15 ?_
  refine lv_topi (fun v4 ev4 => ?_)
  have hp := hp v4 ev4
  refine lv_istore_n (lv' := [(3, .int v4), (2, .int v2), (0, .ref (ad 12)), (1, .int p1)]) hx hb dX3_takesAway_16 rfl hl (by decide) rfl (fun ls hl => ?_)
  refine lv_aload_n hx hb dX3_takesAway_17 rfl (lv_at hl 2 rfl) ?_
  refine va_get (D := D) (ci := 7) (C := RX3) (T := TX3) (N := 3) hx hb hts hin_X3 hown hK hP 12 rfl rfl 0 (by decide) hf_15 (fun _ h9 => h9) rfl dX3_takesAway_18 ?_
  refine lv_iload_n hx hb dX3_takesAway_21 rfl (lv_at hl 3 rfl) ?_
  refine fw_ciV (As := [.int p1]) (rest := []) hC (c_X2_isOfTwo l D k ad hp) (cwV 1 hts (gA_V A_104 A_27 A_28 A_29 A_15) rfl rfl rfl (by decide +kernel) ⟨Nat.le_of_ble_eq_true rfl, Nat.le_of_ble_eq_true rfl⟩) (va_recv hK hP (ci := 6) (q0 := 1) rfl rfl) rfl hl.1 rfl (Nat.le_of_ble_eq_true rfl) dX3_takesAway_22 ⟨Nat.le_of_ble_eq_true rfl, Nat.le_of_ble_eq_true rfl⟩ hP hD hS Jn.same (fun r5 σ6 H locs hP hD hS hp => ?_)
  have hP : va_P D vwCl (W5 k ad (σ6)) H := hP
  have hD : va_D A (W5 k ad (σ6)) := hD
  refine lv_if_ne (tgt := 60) hx hb dX3_takesAway_25 (by decide) (fun c7 => ?_) (fun c7 => ?_)
  · have hp := hp.1 c7
    refine lv_aload_n hx hb dX3_takesAway_60 rfl (lv_at hl 2 rfl) ?_
    refine va_get (D := D) (ci := 7) (C := RX3) (T := TX3) (N := 3) hx hb hts hin_X3 hown hK hP 12 rfl rfl 0 (by decide) hf_15 (fun _ h9 => h9) rfl dX3_takesAway_61 ?_
    refine va_get (D := D) (ci := 6) (C := RX2) (T := TX2) (N := 11) hx hb hts hin_X2 hown hK hP 1 rfl rfl 5 (by decide) hf_66 (fun _ h9 => h9) rfl dX3_takesAway_64 ?_
    refine lv_iload_n hx hb dX3_takesAway_67 rfl (lv_at hl 3 rfl) ?_
    obtain ⟨h8, hp⟩ := hp
    refine va_iald hx hb hK hP 7 0 rfl rfl h8 dX3_takesAway_68 ?_
    refine lv_topi (fun v9 ev9 => ?_)
    have hp := hp v9 ev9
    refine lv_istore (lv' := [(4, .int v9), (3, .int v4), (2, .int v2), (0, .ref (ad 12)), (1, .int p1)]) hx hb dX3_takesAway_69 hl (by decide) rfl (fun ls hl => ?_)
    refine lv_aload_n hx hb dX3_takesAway_71 rfl (lv_at hl 3 rfl) ?_
    refine va_get (D := D) (ci := 7) (C := RX3) (T := TX3) (N := 3) hx hb hts hin_X3 hown hK hP 12 rfl rfl 1 (by decide) hf_9 (fun _ h9 => h9) rfl dX3_takesAway_72 ?_
    refine lv_iload hx hb dX3_takesAway_75 (lv_at hl 0 rfl) ?_
    obtain ⟨h10, hp⟩ := hp
    refine va_iald hx hb hK hP 13 0 rfl rfl h10 dX3_takesAway_77 ?_
    refine lv_topi (fun v11 ev11 => ?_)
    have hp := hp v11 ev11
    refine lv_istore (lv' := [(5, .int v11), (4, .int v9), (3, .int v4), (2, .int v2), (0, .ref (ad 12)), (1, .int p1)]) hx hb dX3_takesAway_78 hl (by decide) rfl (fun ls hl => ?_)
    refine lv_aload_n hx hb dX3_takesAway_80 rfl (lv_at hl 4 rfl) ?_
    refine va_get (D := D) (ci := 7) (C := RX3) (T := TX3) (N := 3) hx hb hts hin_X3 hown hK hP 12 rfl rfl 1 (by decide) hf_9 (fun _ h9 => h9) rfl dX3_takesAway_81 ?_
    refine lv_iload_n hx hb dX3_takesAway_84 rfl (lv_at hl 3 rfl) ?_
    refine lv_iload_n hx hb dX3_takesAway_85 rfl (lv_at hl 2 rfl) ?_
    refine lv_aload_n hx hb dX3_takesAway_86 rfl (lv_at hl 4 rfl) ?_
    refine va_get (D := D) (ci := 7) (C := RX3) (T := TX3) (N := 3) hx hb hts hin_X3 hown hK hP 12 rfl rfl 0 (by decide) hf_15 (fun _ h9 => h9) rfl dX3_takesAway_87 ?_
    refine lv_iload_n hx hb dX3_takesAway_90 rfl (lv_at hl 5 rfl) ?_
    refine lv_iconst (v := 0) hx hb dX3_takesAway_91 (by decide) ?_
    refine lv_iload hx hb dX3_takesAway_92 (lv_at hl 0 rfl) ?_
    refine fw_ciV (As := [.int p1, .int 0, .int v11]) (rest := [.int v4, .int v2, .ref (ad 13)]) hC (c_X2_letsByOther l D k ad hp) (cwV 3 hts (gA_V A_108 A_31 A_32 A_29 A_17) rfl rfl rfl (by decide +kernel) ⟨Nat.le_of_ble_eq_true rfl, Nat.le_of_ble_eq_true rfl⟩) (va_recv hK hP (ci := 6) (q0 := 1) rfl rfl) rfl hl.1 rfl (Nat.le_of_ble_eq_true rfl) dX3_takesAway_94 ⟨Nat.le_of_ble_eq_true rfl, Nat.le_of_ble_eq_true rfl⟩ hP hD hS Jn.same (fun r12 σ13 H locs hP hD hS hp => ?_)
    have hP : va_P D vwCl (W5 k ad (σ13)) H := hP
    have hD : va_D A (W5 k ad (σ13)) := hD
    refine lv_iand hx hb dX3_takesAway_97 ?_
    obtain ⟨h14, hp⟩ := hp
    refine va_iast hx hb hK hP hD hS 13 0 rfl rfl h14 dX3_takesAway_98 (fun H locs hP hD hS => ?_)
    obtain ⟨σ15, eσ15⟩ : ∃ z : Mem, z = mst (σ13) 13 v2.toNatClampNeg (v4 &&& r12) := ⟨_, rfl⟩
    have hp := hp σ15 eσ15
    have hP : va_P D vwCl (W5 k ad (σ15)) H := by rw [eσ15]; exact hP
    have hD : va_D A (W5 k ad (σ15)) := by rw [eσ15]; exact hD
    refine lv_aload_n hx hb dX3_takesAway_99 rfl (lv_at hl 4 rfl) ?_
    refine va_get (D := D) (ci := 7) (C := RX3) (T := TX3) (N := 3) hx hb hts hin_X3 hown hK hP 12 rfl rfl 1 (by decide) hf_9 (fun _ h9 => h9) rfl dX3_takesAway_100 ?_
    refine lv_iload hx hb dX3_takesAway_103 (lv_at hl 1 rfl) ?_
    refine lv_iload hx hb dX3_takesAway_105 (lv_at hl 0 rfl) ?_
    refine lv_aload_n hx hb dX3_takesAway_107 rfl (lv_at hl 4 rfl) ?_
    refine va_get (D := D) (ci := 7) (C := RX3) (T := TX3) (N := 3) hx hb hts hin_X3 hown hK hP 12 rfl rfl 0 (by decide) hf_15 (fun _ h9 => h9) rfl dX3_takesAway_108 ?_
    refine lv_iload_n hx hb dX3_takesAway_111 rfl (lv_at hl 5 rfl) ?_
    refine lv_iconst (v := 1) hx hb dX3_takesAway_112 (by decide) ?_
    refine lv_aload_n hx hb dX3_takesAway_113 rfl (lv_at hl 4 rfl) ?_
    refine va_get (D := D) (ci := 7) (C := RX3) (T := TX3) (N := 3) hx hb hts hin_X3 hown hK hP 12 rfl rfl 1 (by decide) hf_9 (fun _ h9 => h9) rfl dX3_takesAway_114 ?_
    refine lv_iload_n hx hb dX3_takesAway_117 rfl (lv_at hl 3 rfl) ?_
    obtain ⟨h16, hp⟩ := hp
    refine va_iald hx hb hK hP 13 0 rfl rfl h16 dX3_takesAway_118 ?_
    refine fw_ciV (As := [.int p1, .int 1, .int ((σ15) 13 v2.toNatClampNeg)]) (rest := [.int v11, .int v9, .ref (ad 13)]) hC (c_X2_letsByOther l D k ad hp) (cwV 3 hts (gA_V A_108 A_31 A_32 A_29 A_17) rfl rfl rfl (by decide +kernel) ⟨Nat.le_of_ble_eq_true rfl, Nat.le_of_ble_eq_true rfl⟩) (va_recv hK hP (ci := 6) (q0 := 1) rfl rfl) rfl hl.1 rfl (Nat.le_of_ble_eq_true rfl) dX3_takesAway_119 ⟨Nat.le_of_ble_eq_true rfl, Nat.le_of_ble_eq_true rfl⟩ hP hD hS Jn.same (fun r17 σ18 H locs hP hD hS hp => ?_)
    have hP : va_P D vwCl (W5 k ad (σ18)) H := hP
    have hD : va_D A (W5 k ad (σ18)) := hD
    refine lv_iand hx hb dX3_takesAway_122 ?_
    obtain ⟨h19, hp⟩ := hp
    refine va_iast hx hb hK hP hD hS 13 0 rfl rfl h19 dX3_takesAway_123 (fun H locs hP hD hS => ?_)
    obtain ⟨σ20, eσ20⟩ : ∃ z : Mem, z = mst (σ18) 13 v9.toNatClampNeg (v11 &&& r17) := ⟨_, rfl⟩
    have hp := hp σ20 eσ20
    have hP : va_P D vwCl (W5 k ad (σ20)) H := by rw [eσ20]; exact hP
    have hD : va_D A (W5 k ad (σ20)) := by rw [eσ20]; exact hD
    refine lv_aload_n hx hb dX3_takesAway_124 rfl (lv_at hl 4 rfl) ?_
    refine va_get (D := D) (ci := 7) (C := RX3) (T := TX3) (N := 3) hx hb hts hin_X3 hown hK hP 12 rfl rfl 1 (by decide) hf_9 (fun _ h9 => h9) rfl dX3_takesAway_125 ?_
    refine lv_iload_n hx hb dX3_takesAway_128 rfl (lv_at hl 3 rfl) ?_
    obtain ⟨h21, hp⟩ := hp
    refine va_iald hx hb hK hP 13 0 rfl rfl h21 dX3_takesAway_129 ?_
    refine lv_iload_n hx hb dX3_takesAway_130 rfl (lv_at hl 2 rfl) ?_
    refine lv_icmp_ne (tgt := 146) hx hb dX3_takesAway_131 (by decide) (fun c22 => ?_) (fun c22 => ?_)
    · have hp := hp.1 c22
      exact B_146  (σ20) _ _ _  hP hD hS (lv_sub hl [] rfl) hp
    · have hp := hp.2 c22
      refine lv_aload_n hx hb dX3_takesAway_134 rfl (lv_at hl 4 rfl) ?_
      refine va_get (D := D) (ci := 7) (C := RX3) (T := TX3) (N := 3) hx hb hts hin_X3 hown hK hP 12 rfl rfl 1 (by decide) hf_9 (fun _ h9 => h9) rfl dX3_takesAway_135 ?_
      refine lv_iload hx hb dX3_takesAway_138 (lv_at hl 1 rfl) ?_
      obtain ⟨h23, hp⟩ := hp
      refine va_iald hx hb hK hP 13 0 rfl rfl h23 dX3_takesAway_140 ?_
      refine lv_iload hx hb dX3_takesAway_141 (lv_at hl 0 rfl) ?_
      refine lv_icmp_eq (tgt := 150) hx hb dX3_takesAway_143 (by decide) (fun c24 => ?_) (fun c24 => ?_)
      · have hp := hp.1 c24
        refine lv_iconst (v := 0) hx hb dX3_takesAway_150 (by decide) ?_
        exact B_151 0 (σ20) _ _ _  hP hD hS (lv_sub hl [] rfl) hp
      · have hp := hp.2 c24
        exact B_146  (σ20) _ _ _  hP hD hS (lv_sub hl [] rfl) hp
  · have hp := hp.2 c7
    refine lv_aload_n hx hb dX3_takesAway_28 rfl (lv_at hl 2 rfl) ?_
    refine va_get (D := D) (ci := 7) (C := RX3) (T := TX3) (N := 3) hx hb hts hin_X3 hown hK hP 12 rfl rfl 1 (by decide) hf_9 (fun _ h9 => h9) rfl dX3_takesAway_29 ?_
    refine lv_iload_n hx hb dX3_takesAway_32 rfl (lv_at hl 1 rfl) ?_
    refine lv_iload_n hx hb dX3_takesAway_33 rfl (lv_at hl 0 rfl) ?_
    refine lv_aload_n hx hb dX3_takesAway_34 rfl (lv_at hl 2 rfl) ?_
    refine va_get (D := D) (ci := 7) (C := RX3) (T := TX3) (N := 3) hx hb hts hin_X3 hown hK hP 12 rfl rfl 0 (by decide) hf_15 (fun _ h9 => h9) rfl dX3_takesAway_35 ?_
    refine lv_iload_n hx hb dX3_takesAway_38 rfl (lv_at hl 3 rfl) ?_
    refine fw_ciV (As := [.int p1]) (rest := [.int v4, .int v2, .ref (ad 13)]) hC (c_X2_letsAlone l D k ad hp) (cwV 1 hts (gA_V A_105 A_106 A_107 A_29 A_96) rfl rfl rfl (by decide +kernel) ⟨Nat.le_of_ble_eq_true rfl, Nat.le_of_ble_eq_true rfl⟩) (va_recv hK hP (ci := 6) (q0 := 1) rfl rfl) rfl hl.1 rfl (Nat.le_of_ble_eq_true rfl) dX3_takesAway_39 ⟨Nat.le_of_ble_eq_true rfl, Nat.le_of_ble_eq_true rfl⟩ hP hD hS Jn.same (fun r25 σ26 H locs hP hD hS hp => ?_)
    have hP : va_P D vwCl (W5 k ad (σ26)) H := hP
    have hD : va_D A (W5 k ad (σ26)) := hD
    refine lv_iand hx hb dX3_takesAway_42 ?_
    obtain ⟨h27, hp⟩ := hp
    refine va_iast hx hb hK hP hD hS 13 0 rfl rfl h27 dX3_takesAway_43 (fun H locs hP hD hS => ?_)
    obtain ⟨σ28, eσ28⟩ : ∃ z : Mem, z = mst (σ26) 13 v2.toNatClampNeg (v4 &&& r25) := ⟨_, rfl⟩
    have hp := hp σ28 eσ28
    have hP : va_P D vwCl (W5 k ad (σ28)) H := by rw [eσ28]; exact hP
    have hD : va_D A (W5 k ad (σ28)) := by rw [eσ28]; exact hD
    refine lv_aload_n hx hb dX3_takesAway_44 rfl (lv_at hl 2 rfl) ?_
    refine va_get (D := D) (ci := 7) (C := RX3) (T := TX3) (N := 3) hx hb hts hin_X3 hown hK hP 12 rfl rfl 1 (by decide) hf_9 (fun _ h9 => h9) rfl dX3_takesAway_45 ?_
    refine lv_iload_n hx hb dX3_takesAway_48 rfl (lv_at hl 1 rfl) ?_
    obtain ⟨h29, hp⟩ := hp
    refine va_iald hx hb hK hP 13 0 rfl rfl h29 dX3_takesAway_49 ?_
    refine lv_iload_n hx hb dX3_takesAway_50 rfl (lv_at hl 0 rfl) ?_
    refine lv_icmp_eq (tgt := 58) hx hb dX3_takesAway_51 (by decide) (fun c30 => ?_) (fun c30 => ?_)
    · have hp := hp.1 c30
      refine lv_iconst (v := 0) hx hb dX3_takesAway_58 (by decide) ?_
      exact B_59 0 (σ28) _ _ _  hP hD hS (lv_sub hl [] rfl) hp
    · have hp := hp.2 c30
      refine lv_iconst (v := 1) hx hb dX3_takesAway_54 (by decide) ?_
      refine lv_goto (tgt := 59) hx hb dX3_takesAway_55 (by decide) ?_
      exact B_59 1 (σ28) _ _ _  hP hD hS (lv_sub hl [] rfl) hp
set_option maxHeartbeats 4000000 in
set_option maxRecDepth 100000 in
theorem c_X3_takesAway_14 (l : Launch) (D : va_G) (k ad : Nat → Nat) {sz : Nat} {σ : Mem} {p1 : Int32} {post : Int32 → Mem → Prop} (hp : q_X3_takesAway 14 15 post p1 σ) : Met l yX3_takesAway wq_X3_takesAway rm_X3_takesAway (va_Pc [.ref (ad 14), .int p1] (Pw D k (W5 k ad (σ)) sz)) (va_Qi post (fun u => Bw D (W5 k ad (σ)) sz (W5 k ad u)) (va_A (W5 k ad (σ)) sz)) 0 0 (va_A (W5 k ad (σ)) sz) := by
  refine fw_i (wf := fun u : Mem => W5 k ad u) (by decide) rfl (Nat.le_of_ble_eq_true rfl) ?_
  intro p e s m args below meth c A Q ls hC hP hD hl hret
  obtain ⟨⟨hx, hb, hml, hown, hts⟩, hG, hA⟩ := id hC
  have hK := hG.1
  have hS : va_S A s.heap s.heap [] := va_S.rf
  have hin_X3 : ∀ w ∈ u_ws RX3 TX3 3, w ∈ wq_X3_takesAway := fun w h => List.mem_cons_of_mem _ (iU_X3 w h)
  have hf_15 := hts _ (List.mem_cons_of_mem _ A_100)
  have hin_X2 : ∀ w ∈ u_ws RX2 TX2 11, w ∈ wq_X3_takesAway := fun w h => List.mem_cons_of_mem _ (iU_X2 w h)
  have hf_56 := hts _ (List.mem_cons_of_mem _ A_102)
  have hf_9 := hts _ (List.mem_cons_of_mem _ A_99)
  have hf_66 := hts _ (List.mem_cons_of_mem _ A_103)
  have hl : lv_has ls 6 [(0, .ref (ad 14)), (1, .int p1)] := hl
  have hown : s.vm.findClass RX3 = some m.cls := hown
  unfold q_X3_takesAway at hp
  have B_151 : ∀ (s0 : Int32) (σ : Mem) (H : Heap) (locs : List Loc) (ls : Array Slot), va_P D vwCl (W5 k ad (σ)) H → va_D A (W5 k ad (σ)) → va_S A s.heap H locs → lv_has ls 6 [] → (q_X3_takesAway_151 14 15 post) s0 σ → W p l e rm_X3_takesAway s m args below meth c H locs 0 0 Q (F0 m 151 ls [.int s0]) := by
    intro s0 σ H locs ls hP hD hS hl hp
    unfold q_X3_takesAway_151 at hp
    exact hret s0 (σ) _ _ _ _ _ _ dX3_takesAway_151 hp.1.1 hP hD hS (Nat.le_of_ble_eq_true rfl) (Nat.le_of_ble_eq_true rfl) hp.2
  have B_146 : ∀  (σ : Mem) (H : Heap) (locs : List Loc) (ls : Array Slot), va_P D vwCl (W5 k ad (σ)) H → va_D A (W5 k ad (σ)) → va_S A s.heap H locs → lv_has ls 6 [] → (q_X3_takesAway_146 14 15 post)  σ → W p l e rm_X3_takesAway s m args below meth c H locs 0 0 Q (F0 m 146 ls []) := by
    intro  σ H locs ls hP hD hS hl hp
    unfold q_X3_takesAway_146 at hp
    refine lv_iconst (v := 1) hx hb dX3_takesAway_146 (by decide) ?_
    refine lv_goto (tgt := 151) hx hb dX3_takesAway_147 (by decide) ?_
    exact B_151 1 (σ) _ _ _  hP hD hS (lv_sub hl [] rfl) hp
  have B_59 : ∀ (s0 : Int32) (σ : Mem) (H : Heap) (locs : List Loc) (ls : Array Slot), va_P D vwCl (W5 k ad (σ)) H → va_D A (W5 k ad (σ)) → va_S A s.heap H locs → lv_has ls 6 [] → (q_X3_takesAway_59 14 15 post) s0 σ → W p l e rm_X3_takesAway s m args below meth c H locs 0 0 Q (F0 m 59 ls [.int s0]) := by
    intro s0 σ H locs ls hP hD hS hl hp
    unfold q_X3_takesAway_59 at hp
    exact hret s0 (σ) _ _ _ _ _ _ dX3_takesAway_59 hp.1.1 hP hD hS (Nat.le_of_ble_eq_true rfl) (Nat.le_of_ble_eq_true rfl) hp.2
  refine lv_aload_n hx hb dX3_takesAway_0 rfl (lv_at hl 0 rfl) ?_
  refine va_get (D := D) (ci := 7) (C := RX3) (T := TX3) (N := 3) hx hb hts hin_X3 hown hK hP 14 rfl rfl 0 (by decide) hf_15 (fun _ h9 => h9) rfl dX3_takesAway_1 ?_
  refine va_get (D := D) (ci := 6) (C := RX2) (T := TX2) (N := 11) hx hb hts hin_X2 hown hK hP 1 rfl rfl 4 (by decide) hf_56 (fun _ h9 => h9) rfl dX3_takesAway_4 ?_
  refine lv_iload_n hx hb dX3_takesAway_7 rfl (lv_at hl 1 rfl) ?_
  obtain ⟨h1, hp⟩ := hp
  refine va_iald hx hb hK hP 6 0 rfl rfl h1 dX3_takesAway_8 ?_
  refine lv_topi (fun v2 ev2 => ?_)
  have hp := hp v2 ev2
  refine lv_istore_n (lv' := [(2, .int v2), (0, .ref (ad 14)), (1, .int p1)]) hx hb dX3_takesAway_9 rfl hl (by decide) rfl (fun ls hl => ?_)
  refine lv_aload_n hx hb dX3_takesAway_10 rfl (lv_at hl 1 rfl) ?_
  refine va_get (D := D) (ci := 7) (C := RX3) (T := TX3) (N := 3) hx hb hts hin_X3 hown hK hP 14 rfl rfl 1 (by decide) hf_9 (fun _ h9 => h9) rfl dX3_takesAway_11 ?_
  refine lv_iload_n hx hb dX3_takesAway_14 rfl (lv_at hl 0 rfl) ?_
  obtain ⟨h3, hp⟩ := hp
  refine va_iald hx hb hK hP 15 0 rfl rfl h3 dX3_takesAway_15 ?_
  refine lv_topi (fun v4 ev4 => ?_)
  have hp := hp v4 ev4
  refine lv_istore_n (lv' := [(3, .int v4), (2, .int v2), (0, .ref (ad 14)), (1, .int p1)]) hx hb dX3_takesAway_16 rfl hl (by decide) rfl (fun ls hl => ?_)
  refine lv_aload_n hx hb dX3_takesAway_17 rfl (lv_at hl 2 rfl) ?_
  refine va_get (D := D) (ci := 7) (C := RX3) (T := TX3) (N := 3) hx hb hts hin_X3 hown hK hP 14 rfl rfl 0 (by decide) hf_15 (fun _ h9 => h9) rfl dX3_takesAway_18 ?_
  refine lv_iload_n hx hb dX3_takesAway_21 rfl (lv_at hl 3 rfl) ?_
  refine fw_ciV (As := [.int p1]) (rest := []) hC (c_X2_isOfTwo l D k ad hp) (cwV 1 hts (gA_V A_104 A_27 A_28 A_29 A_15) rfl rfl rfl (by decide +kernel) ⟨Nat.le_of_ble_eq_true rfl, Nat.le_of_ble_eq_true rfl⟩) (va_recv hK hP (ci := 6) (q0 := 1) rfl rfl) rfl hl.1 rfl (Nat.le_of_ble_eq_true rfl) dX3_takesAway_22 ⟨Nat.le_of_ble_eq_true rfl, Nat.le_of_ble_eq_true rfl⟩ hP hD hS Jn.same (fun r5 σ6 H locs hP hD hS hp => ?_)
  have hP : va_P D vwCl (W5 k ad (σ6)) H := hP
  have hD : va_D A (W5 k ad (σ6)) := hD
  refine lv_if_ne (tgt := 60) hx hb dX3_takesAway_25 (by decide) (fun c7 => ?_) (fun c7 => ?_)
  · have hp := hp.1 c7
    refine lv_aload_n hx hb dX3_takesAway_60 rfl (lv_at hl 2 rfl) ?_
    refine va_get (D := D) (ci := 7) (C := RX3) (T := TX3) (N := 3) hx hb hts hin_X3 hown hK hP 14 rfl rfl 0 (by decide) hf_15 (fun _ h9 => h9) rfl dX3_takesAway_61 ?_
    refine va_get (D := D) (ci := 6) (C := RX2) (T := TX2) (N := 11) hx hb hts hin_X2 hown hK hP 1 rfl rfl 5 (by decide) hf_66 (fun _ h9 => h9) rfl dX3_takesAway_64 ?_
    refine lv_iload_n hx hb dX3_takesAway_67 rfl (lv_at hl 3 rfl) ?_
    obtain ⟨h8, hp⟩ := hp
    refine va_iald hx hb hK hP 7 0 rfl rfl h8 dX3_takesAway_68 ?_
    refine lv_topi (fun v9 ev9 => ?_)
    have hp := hp v9 ev9
    refine lv_istore (lv' := [(4, .int v9), (3, .int v4), (2, .int v2), (0, .ref (ad 14)), (1, .int p1)]) hx hb dX3_takesAway_69 hl (by decide) rfl (fun ls hl => ?_)
    refine lv_aload_n hx hb dX3_takesAway_71 rfl (lv_at hl 3 rfl) ?_
    refine va_get (D := D) (ci := 7) (C := RX3) (T := TX3) (N := 3) hx hb hts hin_X3 hown hK hP 14 rfl rfl 1 (by decide) hf_9 (fun _ h9 => h9) rfl dX3_takesAway_72 ?_
    refine lv_iload hx hb dX3_takesAway_75 (lv_at hl 0 rfl) ?_
    obtain ⟨h10, hp⟩ := hp
    refine va_iald hx hb hK hP 15 0 rfl rfl h10 dX3_takesAway_77 ?_
    refine lv_topi (fun v11 ev11 => ?_)
    have hp := hp v11 ev11
    refine lv_istore (lv' := [(5, .int v11), (4, .int v9), (3, .int v4), (2, .int v2), (0, .ref (ad 14)), (1, .int p1)]) hx hb dX3_takesAway_78 hl (by decide) rfl (fun ls hl => ?_)
    refine lv_aload_n hx hb dX3_takesAway_80 rfl (lv_at hl 4 rfl) ?_
    refine va_get (D := D) (ci := 7) (C := RX3) (T := TX3) (N := 3) hx hb hts hin_X3 hown hK hP 14 rfl rfl 1 (by decide) hf_9 (fun _ h9 => h9) rfl dX3_takesAway_81 ?_
    refine lv_iload_n hx hb dX3_takesAway_84 rfl (lv_at hl 3 rfl) ?_
    refine lv_iload_n hx hb dX3_takesAway_85 rfl (lv_at hl 2 rfl) ?_
    refine lv_aload_n hx hb dX3_takesAway_86 rfl (lv_at hl 4 rfl) ?_
    refine va_get (D := D) (ci := 7) (C := RX3) (T := TX3) (N := 3) hx hb hts hin_X3 hown hK hP 14 rfl rfl 0 (by decide) hf_15 (fun _ h9 => h9) rfl dX3_takesAway_87 ?_
    refine lv_iload_n hx hb dX3_takesAway_90 rfl (lv_at hl 5 rfl) ?_
    refine lv_iconst (v := 0) hx hb dX3_takesAway_91 (by decide) ?_
    refine lv_iload hx hb dX3_takesAway_92 (lv_at hl 0 rfl) ?_
    refine fw_ciV (As := [.int p1, .int 0, .int v11]) (rest := [.int v4, .int v2, .ref (ad 15)]) hC (c_X2_letsByOther l D k ad hp) (cwV 3 hts (gA_V A_108 A_31 A_32 A_29 A_17) rfl rfl rfl (by decide +kernel) ⟨Nat.le_of_ble_eq_true rfl, Nat.le_of_ble_eq_true rfl⟩) (va_recv hK hP (ci := 6) (q0 := 1) rfl rfl) rfl hl.1 rfl (Nat.le_of_ble_eq_true rfl) dX3_takesAway_94 ⟨Nat.le_of_ble_eq_true rfl, Nat.le_of_ble_eq_true rfl⟩ hP hD hS Jn.same (fun r12 σ13 H locs hP hD hS hp => ?_)
    have hP : va_P D vwCl (W5 k ad (σ13)) H := hP
    have hD : va_D A (W5 k ad (σ13)) := hD
    refine lv_iand hx hb dX3_takesAway_97 ?_
    obtain ⟨h14, hp⟩ := hp
    refine va_iast hx hb hK hP hD hS 15 0 rfl rfl h14 dX3_takesAway_98 (fun H locs hP hD hS => ?_)
    obtain ⟨σ15, eσ15⟩ : ∃ z : Mem, z = mst (σ13) 15 v2.toNatClampNeg (v4 &&& r12) := ⟨_, rfl⟩
    have hp := hp σ15 eσ15
    have hP : va_P D vwCl (W5 k ad (σ15)) H := by rw [eσ15]; exact hP
    have hD : va_D A (W5 k ad (σ15)) := by rw [eσ15]; exact hD
    refine lv_aload_n hx hb dX3_takesAway_99 rfl (lv_at hl 4 rfl) ?_
    refine va_get (D := D) (ci := 7) (C := RX3) (T := TX3) (N := 3) hx hb hts hin_X3 hown hK hP 14 rfl rfl 1 (by decide) hf_9 (fun _ h9 => h9) rfl dX3_takesAway_100 ?_
    refine lv_iload hx hb dX3_takesAway_103 (lv_at hl 1 rfl) ?_
    refine lv_iload hx hb dX3_takesAway_105 (lv_at hl 0 rfl) ?_
    refine lv_aload_n hx hb dX3_takesAway_107 rfl (lv_at hl 4 rfl) ?_
    refine va_get (D := D) (ci := 7) (C := RX3) (T := TX3) (N := 3) hx hb hts hin_X3 hown hK hP 14 rfl rfl 0 (by decide) hf_15 (fun _ h9 => h9) rfl dX3_takesAway_108 ?_
    refine lv_iload_n hx hb dX3_takesAway_111 rfl (lv_at hl 5 rfl) ?_
    refine lv_iconst (v := 1) hx hb dX3_takesAway_112 (by decide) ?_
    refine lv_aload_n hx hb dX3_takesAway_113 rfl (lv_at hl 4 rfl) ?_
    refine va_get (D := D) (ci := 7) (C := RX3) (T := TX3) (N := 3) hx hb hts hin_X3 hown hK hP 14 rfl rfl 1 (by decide) hf_9 (fun _ h9 => h9) rfl dX3_takesAway_114 ?_
    refine lv_iload_n hx hb dX3_takesAway_117 rfl (lv_at hl 3 rfl) ?_
    obtain ⟨h16, hp⟩ := hp
    refine va_iald hx hb hK hP 15 0 rfl rfl h16 dX3_takesAway_118 ?_
    refine fw_ciV (As := [.int p1, .int 1, .int ((σ15) 15 v2.toNatClampNeg)]) (rest := [.int v11, .int v9, .ref (ad 15)]) hC (c_X2_letsByOther l D k ad hp) (cwV 3 hts (gA_V A_108 A_31 A_32 A_29 A_17) rfl rfl rfl (by decide +kernel) ⟨Nat.le_of_ble_eq_true rfl, Nat.le_of_ble_eq_true rfl⟩) (va_recv hK hP (ci := 6) (q0 := 1) rfl rfl) rfl hl.1 rfl (Nat.le_of_ble_eq_true rfl) dX3_takesAway_119 ⟨Nat.le_of_ble_eq_true rfl, Nat.le_of_ble_eq_true rfl⟩ hP hD hS Jn.same (fun r17 σ18 H locs hP hD hS hp => ?_)
    have hP : va_P D vwCl (W5 k ad (σ18)) H := hP
    have hD : va_D A (W5 k ad (σ18)) := hD
    refine lv_iand hx hb dX3_takesAway_122 ?_
    obtain ⟨h19, hp⟩ := hp
    refine va_iast hx hb hK hP hD hS 15 0 rfl rfl h19 dX3_takesAway_123 (fun H locs hP hD hS => ?_)
    obtain ⟨σ20, eσ20⟩ : ∃ z : Mem, z = mst (σ18) 15 v9.toNatClampNeg (v11 &&& r17) := ⟨_, rfl⟩
    have hp := hp σ20 eσ20
    have hP : va_P D vwCl (W5 k ad (σ20)) H := by rw [eσ20]; exact hP
    have hD : va_D A (W5 k ad (σ20)) := by rw [eσ20]; exact hD
    refine lv_aload_n hx hb dX3_takesAway_124 rfl (lv_at hl 4 rfl) ?_
    refine va_get (D := D) (ci := 7) (C := RX3) (T := TX3) (N := 3) hx hb hts hin_X3 hown hK hP 14 rfl rfl 1 (by decide) hf_9 (fun _ h9 => h9) rfl dX3_takesAway_125 ?_
    refine lv_iload_n hx hb dX3_takesAway_128 rfl (lv_at hl 3 rfl) ?_
    obtain ⟨h21, hp⟩ := hp
    refine va_iald hx hb hK hP 15 0 rfl rfl h21 dX3_takesAway_129 ?_
    refine lv_iload_n hx hb dX3_takesAway_130 rfl (lv_at hl 2 rfl) ?_
    refine lv_icmp_ne (tgt := 146) hx hb dX3_takesAway_131 (by decide) (fun c22 => ?_) (fun c22 => ?_)
    · have hp := hp.1 c22
      exact B_146  (σ20) _ _ _  hP hD hS (lv_sub hl [] rfl) hp
    · have hp := hp.2 c22
      refine lv_aload_n hx hb dX3_takesAway_134 rfl (lv_at hl 4 rfl) ?_
      refine va_get (D := D) (ci := 7) (C := RX3) (T := TX3) (N := 3) hx hb hts hin_X3 hown hK hP 14 rfl rfl 1 (by decide) hf_9 (fun _ h9 => h9) rfl dX3_takesAway_135 ?_
      refine lv_iload hx hb dX3_takesAway_138 (lv_at hl 1 rfl) ?_
      obtain ⟨h23, hp⟩ := hp
      refine va_iald hx hb hK hP 15 0 rfl rfl h23 dX3_takesAway_140 ?_
      refine lv_iload hx hb dX3_takesAway_141 (lv_at hl 0 rfl) ?_
      refine lv_icmp_eq (tgt := 150) hx hb dX3_takesAway_143 (by decide) (fun c24 => ?_) (fun c24 => ?_)
      · have hp := hp.1 c24
        refine lv_iconst (v := 0) hx hb dX3_takesAway_150 (by decide) ?_
        exact B_151 0 (σ20) _ _ _  hP hD hS (lv_sub hl [] rfl) hp
      · have hp := hp.2 c24
        exact B_146  (σ20) _ _ _  hP hD hS (lv_sub hl [] rfl) hp
  · have hp := hp.2 c7
    refine lv_aload_n hx hb dX3_takesAway_28 rfl (lv_at hl 2 rfl) ?_
    refine va_get (D := D) (ci := 7) (C := RX3) (T := TX3) (N := 3) hx hb hts hin_X3 hown hK hP 14 rfl rfl 1 (by decide) hf_9 (fun _ h9 => h9) rfl dX3_takesAway_29 ?_
    refine lv_iload_n hx hb dX3_takesAway_32 rfl (lv_at hl 1 rfl) ?_
    refine lv_iload_n hx hb dX3_takesAway_33 rfl (lv_at hl 0 rfl) ?_
    refine lv_aload_n hx hb dX3_takesAway_34 rfl (lv_at hl 2 rfl) ?_
    refine va_get (D := D) (ci := 7) (C := RX3) (T := TX3) (N := 3) hx hb hts hin_X3 hown hK hP 14 rfl rfl 0 (by decide) hf_15 (fun _ h9 => h9) rfl dX3_takesAway_35 ?_
    refine lv_iload_n hx hb dX3_takesAway_38 rfl (lv_at hl 3 rfl) ?_
    refine fw_ciV (As := [.int p1]) (rest := [.int v4, .int v2, .ref (ad 15)]) hC (c_X2_letsAlone l D k ad hp) (cwV 1 hts (gA_V A_105 A_106 A_107 A_29 A_96) rfl rfl rfl (by decide +kernel) ⟨Nat.le_of_ble_eq_true rfl, Nat.le_of_ble_eq_true rfl⟩) (va_recv hK hP (ci := 6) (q0 := 1) rfl rfl) rfl hl.1 rfl (Nat.le_of_ble_eq_true rfl) dX3_takesAway_39 ⟨Nat.le_of_ble_eq_true rfl, Nat.le_of_ble_eq_true rfl⟩ hP hD hS Jn.same (fun r25 σ26 H locs hP hD hS hp => ?_)
    have hP : va_P D vwCl (W5 k ad (σ26)) H := hP
    have hD : va_D A (W5 k ad (σ26)) := hD
    refine lv_iand hx hb dX3_takesAway_42 ?_
    obtain ⟨h27, hp⟩ := hp
    refine va_iast hx hb hK hP hD hS 15 0 rfl rfl h27 dX3_takesAway_43 (fun H locs hP hD hS => ?_)
    obtain ⟨σ28, eσ28⟩ : ∃ z : Mem, z = mst (σ26) 15 v2.toNatClampNeg (v4 &&& r25) := ⟨_, rfl⟩
    have hp := hp σ28 eσ28
    have hP : va_P D vwCl (W5 k ad (σ28)) H := by rw [eσ28]; exact hP
    have hD : va_D A (W5 k ad (σ28)) := by rw [eσ28]; exact hD
    refine lv_aload_n hx hb dX3_takesAway_44 rfl (lv_at hl 2 rfl) ?_
    refine va_get (D := D) (ci := 7) (C := RX3) (T := TX3) (N := 3) hx hb hts hin_X3 hown hK hP 14 rfl rfl 1 (by decide) hf_9 (fun _ h9 => h9) rfl dX3_takesAway_45 ?_
    refine lv_iload_n hx hb dX3_takesAway_48 rfl (lv_at hl 1 rfl) ?_
    obtain ⟨h29, hp⟩ := hp
    refine va_iald hx hb hK hP 15 0 rfl rfl h29 dX3_takesAway_49 ?_
    refine lv_iload_n hx hb dX3_takesAway_50 rfl (lv_at hl 0 rfl) ?_
    refine lv_icmp_eq (tgt := 58) hx hb dX3_takesAway_51 (by decide) (fun c30 => ?_) (fun c30 => ?_)
    · have hp := hp.1 c30
      refine lv_iconst (v := 0) hx hb dX3_takesAway_58 (by decide) ?_
      exact B_59 0 (σ28) _ _ _  hP hD hS (lv_sub hl [] rfl) hp
    · have hp := hp.2 c30
      refine lv_iconst (v := 1) hx hb dX3_takesAway_54 (by decide) ?_
      refine lv_goto (tgt := 59) hx hb dX3_takesAway_55 (by decide) ?_
      exact B_59 1 (σ28) _ _ _  hP hD hS (lv_sub hl [] rfl) hp
set_option maxHeartbeats 4000000 in
set_option maxRecDepth 100000 in
theorem c_X3_takesAway_16 (l : Launch) (D : va_G) (k ad : Nat → Nat) {sz : Nat} {σ : Mem} {p1 : Int32} {post : Int32 → Mem → Prop} (hp : q_X3_takesAway 16 17 post p1 σ) : Met l yX3_takesAway wq_X3_takesAway rm_X3_takesAway (va_Pc [.ref (ad 16), .int p1] (Pw D k (W5 k ad (σ)) sz)) (va_Qi post (fun u => Bw D (W5 k ad (σ)) sz (W5 k ad u)) (va_A (W5 k ad (σ)) sz)) 0 0 (va_A (W5 k ad (σ)) sz) := by
  refine fw_i (wf := fun u : Mem => W5 k ad u) (by decide) rfl (Nat.le_of_ble_eq_true rfl) ?_
  intro p e s m args below meth c A Q ls hC hP hD hl hret
  obtain ⟨⟨hx, hb, hml, hown, hts⟩, hG, hA⟩ := id hC
  have hK := hG.1
  have hS : va_S A s.heap s.heap [] := va_S.rf
  have hin_X3 : ∀ w ∈ u_ws RX3 TX3 3, w ∈ wq_X3_takesAway := fun w h => List.mem_cons_of_mem _ (iU_X3 w h)
  have hf_15 := hts _ (List.mem_cons_of_mem _ A_100)
  have hin_X2 : ∀ w ∈ u_ws RX2 TX2 11, w ∈ wq_X3_takesAway := fun w h => List.mem_cons_of_mem _ (iU_X2 w h)
  have hf_56 := hts _ (List.mem_cons_of_mem _ A_102)
  have hf_9 := hts _ (List.mem_cons_of_mem _ A_99)
  have hf_66 := hts _ (List.mem_cons_of_mem _ A_103)
  have hl : lv_has ls 6 [(0, .ref (ad 16)), (1, .int p1)] := hl
  have hown : s.vm.findClass RX3 = some m.cls := hown
  unfold q_X3_takesAway at hp
  have B_151 : ∀ (s0 : Int32) (σ : Mem) (H : Heap) (locs : List Loc) (ls : Array Slot), va_P D vwCl (W5 k ad (σ)) H → va_D A (W5 k ad (σ)) → va_S A s.heap H locs → lv_has ls 6 [] → (q_X3_takesAway_151 16 17 post) s0 σ → W p l e rm_X3_takesAway s m args below meth c H locs 0 0 Q (F0 m 151 ls [.int s0]) := by
    intro s0 σ H locs ls hP hD hS hl hp
    unfold q_X3_takesAway_151 at hp
    exact hret s0 (σ) _ _ _ _ _ _ dX3_takesAway_151 hp.1.1 hP hD hS (Nat.le_of_ble_eq_true rfl) (Nat.le_of_ble_eq_true rfl) hp.2
  have B_146 : ∀  (σ : Mem) (H : Heap) (locs : List Loc) (ls : Array Slot), va_P D vwCl (W5 k ad (σ)) H → va_D A (W5 k ad (σ)) → va_S A s.heap H locs → lv_has ls 6 [] → (q_X3_takesAway_146 16 17 post)  σ → W p l e rm_X3_takesAway s m args below meth c H locs 0 0 Q (F0 m 146 ls []) := by
    intro  σ H locs ls hP hD hS hl hp
    unfold q_X3_takesAway_146 at hp
    refine lv_iconst (v := 1) hx hb dX3_takesAway_146 (by decide) ?_
    refine lv_goto (tgt := 151) hx hb dX3_takesAway_147 (by decide) ?_
    exact B_151 1 (σ) _ _ _  hP hD hS (lv_sub hl [] rfl) hp
  have B_59 : ∀ (s0 : Int32) (σ : Mem) (H : Heap) (locs : List Loc) (ls : Array Slot), va_P D vwCl (W5 k ad (σ)) H → va_D A (W5 k ad (σ)) → va_S A s.heap H locs → lv_has ls 6 [] → (q_X3_takesAway_59 16 17 post) s0 σ → W p l e rm_X3_takesAway s m args below meth c H locs 0 0 Q (F0 m 59 ls [.int s0]) := by
    intro s0 σ H locs ls hP hD hS hl hp
    unfold q_X3_takesAway_59 at hp
    exact hret s0 (σ) _ _ _ _ _ _ dX3_takesAway_59 hp.1.1 hP hD hS (Nat.le_of_ble_eq_true rfl) (Nat.le_of_ble_eq_true rfl) hp.2
  refine lv_aload_n hx hb dX3_takesAway_0 rfl (lv_at hl 0 rfl) ?_
  refine va_get (D := D) (ci := 7) (C := RX3) (T := TX3) (N := 3) hx hb hts hin_X3 hown hK hP 16 rfl rfl 0 (by decide) hf_15 (fun _ h9 => h9) rfl dX3_takesAway_1 ?_
  refine va_get (D := D) (ci := 6) (C := RX2) (T := TX2) (N := 11) hx hb hts hin_X2 hown hK hP 1 rfl rfl 4 (by decide) hf_56 (fun _ h9 => h9) rfl dX3_takesAway_4 ?_
  refine lv_iload_n hx hb dX3_takesAway_7 rfl (lv_at hl 1 rfl) ?_
  obtain ⟨h1, hp⟩ := hp
  refine va_iald hx hb hK hP 6 0 rfl rfl h1 dX3_takesAway_8 ?_
  refine lv_topi (fun v2 ev2 => ?_)
  have hp := hp v2 ev2
  refine lv_istore_n (lv' := [(2, .int v2), (0, .ref (ad 16)), (1, .int p1)]) hx hb dX3_takesAway_9 rfl hl (by decide) rfl (fun ls hl => ?_)
  refine lv_aload_n hx hb dX3_takesAway_10 rfl (lv_at hl 1 rfl) ?_
  refine va_get (D := D) (ci := 7) (C := RX3) (T := TX3) (N := 3) hx hb hts hin_X3 hown hK hP 16 rfl rfl 1 (by decide) hf_9 (fun _ h9 => h9) rfl dX3_takesAway_11 ?_
  refine lv_iload_n hx hb dX3_takesAway_14 rfl (lv_at hl 0 rfl) ?_
  obtain ⟨h3, hp⟩ := hp
  refine va_iald hx hb hK hP 17 0 rfl rfl h3 dX3_takesAway_15 ?_
  refine lv_topi (fun v4 ev4 => ?_)
  have hp := hp v4 ev4
  refine lv_istore_n (lv' := [(3, .int v4), (2, .int v2), (0, .ref (ad 16)), (1, .int p1)]) hx hb dX3_takesAway_16 rfl hl (by decide) rfl (fun ls hl => ?_)
  refine lv_aload_n hx hb dX3_takesAway_17 rfl (lv_at hl 2 rfl) ?_
  refine va_get (D := D) (ci := 7) (C := RX3) (T := TX3) (N := 3) hx hb hts hin_X3 hown hK hP 16 rfl rfl 0 (by decide) hf_15 (fun _ h9 => h9) rfl dX3_takesAway_18 ?_
  refine lv_iload_n hx hb dX3_takesAway_21 rfl (lv_at hl 3 rfl) ?_
  refine fw_ciV (As := [.int p1]) (rest := []) hC (c_X2_isOfTwo l D k ad hp) (cwV 1 hts (gA_V A_104 A_27 A_28 A_29 A_15) rfl rfl rfl (by decide +kernel) ⟨Nat.le_of_ble_eq_true rfl, Nat.le_of_ble_eq_true rfl⟩) (va_recv hK hP (ci := 6) (q0 := 1) rfl rfl) rfl hl.1 rfl (Nat.le_of_ble_eq_true rfl) dX3_takesAway_22 ⟨Nat.le_of_ble_eq_true rfl, Nat.le_of_ble_eq_true rfl⟩ hP hD hS Jn.same (fun r5 σ6 H locs hP hD hS hp => ?_)
  have hP : va_P D vwCl (W5 k ad (σ6)) H := hP
  have hD : va_D A (W5 k ad (σ6)) := hD
  refine lv_if_ne (tgt := 60) hx hb dX3_takesAway_25 (by decide) (fun c7 => ?_) (fun c7 => ?_)
  · have hp := hp.1 c7
    refine lv_aload_n hx hb dX3_takesAway_60 rfl (lv_at hl 2 rfl) ?_
    refine va_get (D := D) (ci := 7) (C := RX3) (T := TX3) (N := 3) hx hb hts hin_X3 hown hK hP 16 rfl rfl 0 (by decide) hf_15 (fun _ h9 => h9) rfl dX3_takesAway_61 ?_
    refine va_get (D := D) (ci := 6) (C := RX2) (T := TX2) (N := 11) hx hb hts hin_X2 hown hK hP 1 rfl rfl 5 (by decide) hf_66 (fun _ h9 => h9) rfl dX3_takesAway_64 ?_
    refine lv_iload_n hx hb dX3_takesAway_67 rfl (lv_at hl 3 rfl) ?_
    obtain ⟨h8, hp⟩ := hp
    refine va_iald hx hb hK hP 7 0 rfl rfl h8 dX3_takesAway_68 ?_
    refine lv_topi (fun v9 ev9 => ?_)
    have hp := hp v9 ev9
    refine lv_istore (lv' := [(4, .int v9), (3, .int v4), (2, .int v2), (0, .ref (ad 16)), (1, .int p1)]) hx hb dX3_takesAway_69 hl (by decide) rfl (fun ls hl => ?_)
    refine lv_aload_n hx hb dX3_takesAway_71 rfl (lv_at hl 3 rfl) ?_
    refine va_get (D := D) (ci := 7) (C := RX3) (T := TX3) (N := 3) hx hb hts hin_X3 hown hK hP 16 rfl rfl 1 (by decide) hf_9 (fun _ h9 => h9) rfl dX3_takesAway_72 ?_
    refine lv_iload hx hb dX3_takesAway_75 (lv_at hl 0 rfl) ?_
    obtain ⟨h10, hp⟩ := hp
    refine va_iald hx hb hK hP 17 0 rfl rfl h10 dX3_takesAway_77 ?_
    refine lv_topi (fun v11 ev11 => ?_)
    have hp := hp v11 ev11
    refine lv_istore (lv' := [(5, .int v11), (4, .int v9), (3, .int v4), (2, .int v2), (0, .ref (ad 16)), (1, .int p1)]) hx hb dX3_takesAway_78 hl (by decide) rfl (fun ls hl => ?_)
    refine lv_aload_n hx hb dX3_takesAway_80 rfl (lv_at hl 4 rfl) ?_
    refine va_get (D := D) (ci := 7) (C := RX3) (T := TX3) (N := 3) hx hb hts hin_X3 hown hK hP 16 rfl rfl 1 (by decide) hf_9 (fun _ h9 => h9) rfl dX3_takesAway_81 ?_
    refine lv_iload_n hx hb dX3_takesAway_84 rfl (lv_at hl 3 rfl) ?_
    refine lv_iload_n hx hb dX3_takesAway_85 rfl (lv_at hl 2 rfl) ?_
    refine lv_aload_n hx hb dX3_takesAway_86 rfl (lv_at hl 4 rfl) ?_
    refine va_get (D := D) (ci := 7) (C := RX3) (T := TX3) (N := 3) hx hb hts hin_X3 hown hK hP 16 rfl rfl 0 (by decide) hf_15 (fun _ h9 => h9) rfl dX3_takesAway_87 ?_
    refine lv_iload_n hx hb dX3_takesAway_90 rfl (lv_at hl 5 rfl) ?_
    refine lv_iconst (v := 0) hx hb dX3_takesAway_91 (by decide) ?_
    refine lv_iload hx hb dX3_takesAway_92 (lv_at hl 0 rfl) ?_
    refine fw_ciV (As := [.int p1, .int 0, .int v11]) (rest := [.int v4, .int v2, .ref (ad 17)]) hC (c_X2_letsByOther l D k ad hp) (cwV 3 hts (gA_V A_108 A_31 A_32 A_29 A_17) rfl rfl rfl (by decide +kernel) ⟨Nat.le_of_ble_eq_true rfl, Nat.le_of_ble_eq_true rfl⟩) (va_recv hK hP (ci := 6) (q0 := 1) rfl rfl) rfl hl.1 rfl (Nat.le_of_ble_eq_true rfl) dX3_takesAway_94 ⟨Nat.le_of_ble_eq_true rfl, Nat.le_of_ble_eq_true rfl⟩ hP hD hS Jn.same (fun r12 σ13 H locs hP hD hS hp => ?_)
    have hP : va_P D vwCl (W5 k ad (σ13)) H := hP
    have hD : va_D A (W5 k ad (σ13)) := hD
    refine lv_iand hx hb dX3_takesAway_97 ?_
    obtain ⟨h14, hp⟩ := hp
    refine va_iast hx hb hK hP hD hS 17 0 rfl rfl h14 dX3_takesAway_98 (fun H locs hP hD hS => ?_)
    obtain ⟨σ15, eσ15⟩ : ∃ z : Mem, z = mst (σ13) 17 v2.toNatClampNeg (v4 &&& r12) := ⟨_, rfl⟩
    have hp := hp σ15 eσ15
    have hP : va_P D vwCl (W5 k ad (σ15)) H := by rw [eσ15]; exact hP
    have hD : va_D A (W5 k ad (σ15)) := by rw [eσ15]; exact hD
    refine lv_aload_n hx hb dX3_takesAway_99 rfl (lv_at hl 4 rfl) ?_
    refine va_get (D := D) (ci := 7) (C := RX3) (T := TX3) (N := 3) hx hb hts hin_X3 hown hK hP 16 rfl rfl 1 (by decide) hf_9 (fun _ h9 => h9) rfl dX3_takesAway_100 ?_
    refine lv_iload hx hb dX3_takesAway_103 (lv_at hl 1 rfl) ?_
    refine lv_iload hx hb dX3_takesAway_105 (lv_at hl 0 rfl) ?_
    refine lv_aload_n hx hb dX3_takesAway_107 rfl (lv_at hl 4 rfl) ?_
    refine va_get (D := D) (ci := 7) (C := RX3) (T := TX3) (N := 3) hx hb hts hin_X3 hown hK hP 16 rfl rfl 0 (by decide) hf_15 (fun _ h9 => h9) rfl dX3_takesAway_108 ?_
    refine lv_iload_n hx hb dX3_takesAway_111 rfl (lv_at hl 5 rfl) ?_
    refine lv_iconst (v := 1) hx hb dX3_takesAway_112 (by decide) ?_
    refine lv_aload_n hx hb dX3_takesAway_113 rfl (lv_at hl 4 rfl) ?_
    refine va_get (D := D) (ci := 7) (C := RX3) (T := TX3) (N := 3) hx hb hts hin_X3 hown hK hP 16 rfl rfl 1 (by decide) hf_9 (fun _ h9 => h9) rfl dX3_takesAway_114 ?_
    refine lv_iload_n hx hb dX3_takesAway_117 rfl (lv_at hl 3 rfl) ?_
    obtain ⟨h16, hp⟩ := hp
    refine va_iald hx hb hK hP 17 0 rfl rfl h16 dX3_takesAway_118 ?_
    refine fw_ciV (As := [.int p1, .int 1, .int ((σ15) 17 v2.toNatClampNeg)]) (rest := [.int v11, .int v9, .ref (ad 17)]) hC (c_X2_letsByOther l D k ad hp) (cwV 3 hts (gA_V A_108 A_31 A_32 A_29 A_17) rfl rfl rfl (by decide +kernel) ⟨Nat.le_of_ble_eq_true rfl, Nat.le_of_ble_eq_true rfl⟩) (va_recv hK hP (ci := 6) (q0 := 1) rfl rfl) rfl hl.1 rfl (Nat.le_of_ble_eq_true rfl) dX3_takesAway_119 ⟨Nat.le_of_ble_eq_true rfl, Nat.le_of_ble_eq_true rfl⟩ hP hD hS Jn.same (fun r17 σ18 H locs hP hD hS hp => ?_)
    have hP : va_P D vwCl (W5 k ad (σ18)) H := hP
    have hD : va_D A (W5 k ad (σ18)) := hD
    refine lv_iand hx hb dX3_takesAway_122 ?_
    obtain ⟨h19, hp⟩ := hp
    refine va_iast hx hb hK hP hD hS 17 0 rfl rfl h19 dX3_takesAway_123 (fun H locs hP hD hS => ?_)
    obtain ⟨σ20, eσ20⟩ : ∃ z : Mem, z = mst (σ18) 17 v9.toNatClampNeg (v11 &&& r17) := ⟨_, rfl⟩
    have hp := hp σ20 eσ20
    have hP : va_P D vwCl (W5 k ad (σ20)) H := by rw [eσ20]; exact hP
    have hD : va_D A (W5 k ad (σ20)) := by rw [eσ20]; exact hD
    refine lv_aload_n hx hb dX3_takesAway_124 rfl (lv_at hl 4 rfl) ?_
    refine va_get (D := D) (ci := 7) (C := RX3) (T := TX3) (N := 3) hx hb hts hin_X3 hown hK hP 16 rfl rfl 1 (by decide) hf_9 (fun _ h9 => h9) rfl dX3_takesAway_125 ?_
    refine lv_iload_n hx hb dX3_takesAway_128 rfl (lv_at hl 3 rfl) ?_
    obtain ⟨h21, hp⟩ := hp
    refine va_iald hx hb hK hP 17 0 rfl rfl h21 dX3_takesAway_129 ?_
    refine lv_iload_n hx hb dX3_takesAway_130 rfl (lv_at hl 2 rfl) ?_
    refine lv_icmp_ne (tgt := 146) hx hb dX3_takesAway_131 (by decide) (fun c22 => ?_) (fun c22 => ?_)
    · have hp := hp.1 c22
      exact B_146  (σ20) _ _ _  hP hD hS (lv_sub hl [] rfl) hp
    · have hp := hp.2 c22
      refine lv_aload_n hx hb dX3_takesAway_134 rfl (lv_at hl 4 rfl) ?_
      refine va_get (D := D) (ci := 7) (C := RX3) (T := TX3) (N := 3) hx hb hts hin_X3 hown hK hP 16 rfl rfl 1 (by decide) hf_9 (fun _ h9 => h9) rfl dX3_takesAway_135 ?_
      refine lv_iload hx hb dX3_takesAway_138 (lv_at hl 1 rfl) ?_
      obtain ⟨h23, hp⟩ := hp
      refine va_iald hx hb hK hP 17 0 rfl rfl h23 dX3_takesAway_140 ?_
      refine lv_iload hx hb dX3_takesAway_141 (lv_at hl 0 rfl) ?_
      refine lv_icmp_eq (tgt := 150) hx hb dX3_takesAway_143 (by decide) (fun c24 => ?_) (fun c24 => ?_)
      · have hp := hp.1 c24
        refine lv_iconst (v := 0) hx hb dX3_takesAway_150 (by decide) ?_
        exact B_151 0 (σ20) _ _ _  hP hD hS (lv_sub hl [] rfl) hp
      · have hp := hp.2 c24
        exact B_146  (σ20) _ _ _  hP hD hS (lv_sub hl [] rfl) hp
  · have hp := hp.2 c7
    refine lv_aload_n hx hb dX3_takesAway_28 rfl (lv_at hl 2 rfl) ?_
    refine va_get (D := D) (ci := 7) (C := RX3) (T := TX3) (N := 3) hx hb hts hin_X3 hown hK hP 16 rfl rfl 1 (by decide) hf_9 (fun _ h9 => h9) rfl dX3_takesAway_29 ?_
    refine lv_iload_n hx hb dX3_takesAway_32 rfl (lv_at hl 1 rfl) ?_
    refine lv_iload_n hx hb dX3_takesAway_33 rfl (lv_at hl 0 rfl) ?_
    refine lv_aload_n hx hb dX3_takesAway_34 rfl (lv_at hl 2 rfl) ?_
    refine va_get (D := D) (ci := 7) (C := RX3) (T := TX3) (N := 3) hx hb hts hin_X3 hown hK hP 16 rfl rfl 0 (by decide) hf_15 (fun _ h9 => h9) rfl dX3_takesAway_35 ?_
    refine lv_iload_n hx hb dX3_takesAway_38 rfl (lv_at hl 3 rfl) ?_
    refine fw_ciV (As := [.int p1]) (rest := [.int v4, .int v2, .ref (ad 17)]) hC (c_X2_letsAlone l D k ad hp) (cwV 1 hts (gA_V A_105 A_106 A_107 A_29 A_96) rfl rfl rfl (by decide +kernel) ⟨Nat.le_of_ble_eq_true rfl, Nat.le_of_ble_eq_true rfl⟩) (va_recv hK hP (ci := 6) (q0 := 1) rfl rfl) rfl hl.1 rfl (Nat.le_of_ble_eq_true rfl) dX3_takesAway_39 ⟨Nat.le_of_ble_eq_true rfl, Nat.le_of_ble_eq_true rfl⟩ hP hD hS Jn.same (fun r25 σ26 H locs hP hD hS hp => ?_)
    have hP : va_P D vwCl (W5 k ad (σ26)) H := hP
    have hD : va_D A (W5 k ad (σ26)) := hD
    refine lv_iand hx hb dX3_takesAway_42 ?_
    obtain ⟨h27, hp⟩ := hp
    refine va_iast hx hb hK hP hD hS 17 0 rfl rfl h27 dX3_takesAway_43 (fun H locs hP hD hS => ?_)
    obtain ⟨σ28, eσ28⟩ : ∃ z : Mem, z = mst (σ26) 17 v2.toNatClampNeg (v4 &&& r25) := ⟨_, rfl⟩
    have hp := hp σ28 eσ28
    have hP : va_P D vwCl (W5 k ad (σ28)) H := by rw [eσ28]; exact hP
    have hD : va_D A (W5 k ad (σ28)) := by rw [eσ28]; exact hD
    refine lv_aload_n hx hb dX3_takesAway_44 rfl (lv_at hl 2 rfl) ?_
    refine va_get (D := D) (ci := 7) (C := RX3) (T := TX3) (N := 3) hx hb hts hin_X3 hown hK hP 16 rfl rfl 1 (by decide) hf_9 (fun _ h9 => h9) rfl dX3_takesAway_45 ?_
    refine lv_iload_n hx hb dX3_takesAway_48 rfl (lv_at hl 1 rfl) ?_
    obtain ⟨h29, hp⟩ := hp
    refine va_iald hx hb hK hP 17 0 rfl rfl h29 dX3_takesAway_49 ?_
    refine lv_iload_n hx hb dX3_takesAway_50 rfl (lv_at hl 0 rfl) ?_
    refine lv_icmp_eq (tgt := 58) hx hb dX3_takesAway_51 (by decide) (fun c30 => ?_) (fun c30 => ?_)
    · have hp := hp.1 c30
      refine lv_iconst (v := 0) hx hb dX3_takesAway_58 (by decide) ?_
      exact B_59 0 (σ28) _ _ _  hP hD hS (lv_sub hl [] rfl) hp
    · have hp := hp.2 c30
      refine lv_iconst (v := 1) hx hb dX3_takesAway_54 (by decide) ?_
      refine lv_goto (tgt := 59) hx hb dX3_takesAway_55 (by decide) ?_
      exact B_59 1 (σ28) _ _ _  hP hD hS (lv_sub hl [] rfl) hp
def q_X3_goOn_116 (pm : Nat) (pa : Nat) (post : Mem → Prop)  (σ : Mem) : Prop := post (σ)
def q_X3_goOn_101 (pm : Nat) (pa : Nat) (post : Mem → Prop)  (σ : Mem) : Prop := ((((σ) pm 2) = 0 → (q_X3_goOn_116 pm pa post) (σ)) ∧ (¬ (((σ) pm 2) = 0) → (∀ σ8002 : Mem, σ8002 = mup (σ) pa (fl_row 5 0 ((σ) pa)) → (q_X3_goOn_116 pm pa post) (σ8002))))
def q_X3_goOn_95 (pm : Nat) (pa : Nat) (post : Mem → Prop) (kE_101 : Mem → Prop) (kc_70 : Int32 → Mem → Prop) (x3 : Int32) (σ : Mem) : Prop := (∀ v7001 : Int32, v7001 = x3 + 1 → kc_70 v7001 (σ))
def q_X3_goOn_70 (pm : Nat) (pa : Nat) (post : Mem → Prop) (kE_101 : Mem → Prop) (kc_70 : Int32 → Mem → Prop) (x3 : Int32) (σ : Mem) : Prop := ((((σ) 1 9) ≤ x3 → kE_101 (σ)) ∧ (¬ (((σ) 1 9) ≤ x3) → (vp_in x3 5 ∧ ((((σ) pa x3.toNatClampNeg) ≠ 0 → (q_X3_goOn_95 pm pa post kE_101 kc_70) x3 (σ)) ∧ (((σ) pa x3.toNatClampNeg) = 0 → (∀ σ6004 : Mem, σ6004 = mst (σ) pm 2 1 → (q_X3_goOn_95 pm pa post kE_101 kc_70) x3 (σ6004)))))))
def q_X3_goOn_63 (pm : Nat) (pa : Nat) (post : Mem → Prop)  (σ : Mem) : Prop := (∀ σ5001 : Mem, σ5001 = mst (σ) pm 2 0 → (∃ n9 : Nat, lp_2 (q_X3_goOn_70 pm pa post (q_X3_goOn_101 pm pa post)) n9 0 (σ5001)))
def q_X3_goOn_57 (pm : Nat) (pa : Nat) (post : Mem → Prop) (kE_63 : Mem → Prop) (kc_4 : Int32 → Int32 → Int32 → Mem → Prop) (x1 : Int32) (x2 : Int32) (x3 : Int32) (σ : Mem) : Prop := (∀ v4001 : Int32, v4001 = x3 + 1 → kc_4 x1 x2 v4001 (σ))
def q_X3_goOn_51 (pm : Nat) (pa : Nat) (post : Mem → Prop) (kE_57 : Int32 → Int32 → Int32 → Mem → Prop) (kc_19 : Int32 → Int32 → Int32 → Int32 → Mem → Prop) (x1 : Int32) (x2 : Int32) (x3 : Int32) (x4 : Int32) (σ : Mem) : Prop := (∀ v3001 : Int32, v3001 = x4 + 1 → kc_19 x1 x2 x3 v3001 (σ))
def q_X3_goOn_19 (pm : Nat) (pa : Nat) (post : Mem → Prop) (kE_57 : Int32 → Int32 → Int32 → Mem → Prop) (kc_19 : Int32 → Int32 → Int32 → Int32 → Mem → Prop) (x1 : Int32) (x2 : Int32) (x3 : Int32) (x4 : Int32) (σ : Mem) : Prop := ((((σ) 1 10) ≤ x4 → kE_57 x1 x2 x3 (σ)) ∧ (¬ (((σ) 1 10) ≤ x4) → (q_X5_contains (fun (r2002 : Int32) (σ2003 : Mem) => ((r2002 = 0 → (q_X3_goOn_51 pm pa post kE_57 kc_19) x1 x2 x3 x4 (σ)) ∧ (¬ (r2002 = 0) → (q_X3_takesAway pm pa (fun (r2005 : Int32) (σ2006 : Mem) => ((r2005 = 0 → (q_X3_goOn_51 pm pa post kE_57 kc_19) x1 x2 x3 x4 (σ2006)) ∧ (¬ (r2005 = 0) → (q_X3_goOn_51 pm pa post kE_57 kc_19) x1 1 x3 x4 (σ2006)))) x4 (σ))))) x1 x4 (σ))))
def q_X3_goOn_4 (pm : Nat) (pa : Nat) (post : Mem → Prop) (kE_63 : Mem → Prop) (kc_4 : Int32 → Int32 → Int32 → Mem → Prop) (x1 : Int32) (x2 : Int32) (x3 : Int32) (σ : Mem) : Prop := ((x2 = 0 → kE_63 (σ)) ∧ (¬ (x2 = 0) → ((40 < x3 → kE_63 (σ)) ∧ (¬ (40 < x3) → (∃ n9 : Nat, lp_5 (q_X3_goOn_19 pm pa post (q_X3_goOn_57 pm pa post kE_63 kc_4)) n9 x1 0 x3 0 (σ))))))
def q_X3_goOn (pm : Nat) (pa : Nat) (post : Mem → Prop) (p1 : Int32) (σ : Mem) : Prop := (∃ n9 : Nat, lp_4 (q_X3_goOn_4 pm pa post (q_X3_goOn_63 pm pa post)) n9 p1 1 0 (σ))
abbrev rm_X3_goOn : Room := { frames := 2, cells := 0, slots := 0, locals := 49 }
abbrev wq_X3_goOn : List Cond := Cond.code yX3_goOn cX3_goOn 5 none :: wALL
set_option maxHeartbeats 4000000 in
set_option maxRecDepth 100000 in
theorem c_X3_goOn_12 (l : Launch) (D : va_G) (k ad : Nat → Nat) {sz : Nat} {σ : Mem} {p1 : Int32} {post : Mem → Prop} (hp : q_X3_goOn 12 13 post p1 σ) : Met l yX3_goOn wq_X3_goOn rm_X3_goOn (va_Pc [.ref (ad 12), .int p1] (Pw D k (W5 k ad (σ)) sz)) (va_Qv post (fun u => Bw D (W5 k ad (σ)) sz (W5 k ad u)) (va_A (W5 k ad (σ)) sz)) 0 0 (va_A (W5 k ad (σ)) sz) := by
  refine fw_v (wf := fun u : Mem => W5 k ad u) (by decide) rfl (Nat.le_of_ble_eq_true rfl) ?_
  intro p e s m args below meth c A Q ls hC hP hD hl hmn hret
  obtain ⟨⟨hx, hb, hml, hown, hts⟩, hG, hA⟩ := id hC
  have hK := hG.1
  have hS : va_S A s.heap s.heap [] := va_S.rf
  have hin_X3 : ∀ w ∈ u_ws RX3 TX3 3, w ∈ wq_X3_goOn := fun w h => List.mem_cons_of_mem _ (iU_X3 w h)
  have hf_35 := hts _ (List.mem_cons_of_mem _ A_110)
  have hf_15 := hts _ (List.mem_cons_of_mem _ A_100)
  have hin_X2 : ∀ w ∈ u_ws RX2 TX2 11, w ∈ wq_X3_goOn := fun w h => List.mem_cons_of_mem _ (iU_X2 w h)
  have hf_39 := hts _ (List.mem_cons_of_mem _ A_109)
  have hf_53 := hts _ (List.mem_cons_of_mem _ A_111)
  have hf_9 := hts _ (List.mem_cons_of_mem _ A_99)
  have hl : lv_has ls 5 [(0, .ref (ad 12)), (1, .int p1)] := hl
  have hown : s.vm.findClass RX3 = some m.cls := hown
  unfold q_X3_goOn at hp
  have B_116 : ∀  (σ : Mem) (H : Heap) (locs : List Loc) (ls : Array Slot), va_P D vwCl (W5 k ad (σ)) H → va_D A (W5 k ad (σ)) → va_S A s.heap H locs → lv_has ls 5 [] → (q_X3_goOn_116 12 13 post)  σ → W p l e rm_X3_goOn s m args below meth c H locs 0 0 Q (F0 m 116 ls []) := by
    intro  σ H locs ls hP hD hS hl hp
    unfold q_X3_goOn_116 at hp
    exact hret (σ) _ _ _ _ _ _ dX3_goOn_116 hP hD hS (Nat.le_of_ble_eq_true rfl) (Nat.le_of_ble_eq_true rfl) hp
  have B_101 : ∀  (σ : Mem) (H : Heap) (locs : List Loc) (ls : Array Slot), va_P D vwCl (W5 k ad (σ)) H → va_D A (W5 k ad (σ)) → va_S A s.heap H locs → lv_has ls 5 [(0, .ref (ad 12))] → (q_X3_goOn_101 12 13 post)  σ → W p l e rm_X3_goOn s m args below meth c H locs 0 0 Q (F0 m 101 ls []) := by
    intro  σ H locs ls hP hD hS hl hp
    unfold q_X3_goOn_101 at hp
    refine lv_aload_n hx hb dX3_goOn_101 rfl (lv_at hl 0 rfl) ?_
    refine va_get (D := D) (ci := 7) (C := RX3) (T := TX3) (N := 3) hx hb hts hin_X3 hown hK hP 12 rfl rfl 2 (by decide) hf_35 (fun _ h9 => h9) rfl dX3_goOn_102 ?_
    refine lv_if_eq (tgt := 116) hx hb dX3_goOn_105 (by decide) (fun c80001 => ?_) (fun c80001 => ?_)
    · have hp := hp.1 c80001
      exact B_116  (σ) _ _ _  hP hD hS (lv_sub hl [] rfl) hp
    · have hp := hp.2 c80001
      refine lv_aload_n hx hb dX3_goOn_108 rfl (lv_at hl 0 rfl) ?_
      refine va_get (D := D) (ci := 7) (C := RX3) (T := TX3) (N := 3) hx hb hts hin_X3 hown hK hP 12 rfl rfl 1 (by decide) hf_9 (fun _ h9 => h9) rfl dX3_goOn_109 ?_
      refine lv_iconst (v := 0) hx hb dX3_goOn_112 (by decide) ?_
      refine fw_cvS (As := [.ref (ad 13), .int 0]) (rest := []) hC (c_J7_fill l D k (ad 13) 5 ((σ) 13) 0 (by decide)) (va_cwS 2 hts (gA_S A_116 A_12 A_13 A_0) rfl rfl rfl (by decide +kernel) ⟨Nat.le_of_ble_eq_true rfl, Nat.le_of_ble_eq_true rfl⟩) rfl hl.1 rfl (Nat.le_of_ble_eq_true rfl) dX3_goOn_113 ⟨Nat.le_of_ble_eq_true rfl, Nat.le_of_ble_eq_true rfl⟩ (P_one (p := 13) hP rfl) (D_one (p := 13) hD rfl) hS (Jn.cell (p := 13) hP hD rfl) (fun u9 H locs hP hD hS hu9 => ?_)
      obtain rfl := hu9
      obtain ⟨σ80002, eσ80002⟩ : ∃ z : Mem, z = mup (σ) 13 (fl_row 5 0 ((σ) 13)) := ⟨_, rfl⟩
      have hp := hp σ80002 eσ80002
      have hP : va_P D vwCl (W5 k ad (σ80002)) H := by rw [eσ80002]; exact hP
      have hD : va_D A (W5 k ad (σ80002)) := by rw [eσ80002]; exact hD
      exact B_116  (σ80002) _ _ _  hP hD hS (lv_sub hl [] rfl) hp
  have B_70 : ∀ (n_70 : Nat) (x3 : Int32) (σ : Mem) (H : Heap) (locs : List Loc) (ls : Array Slot), va_P D vwCl (W5 k ad (σ)) H → va_D A (W5 k ad (σ)) → va_S A s.heap H locs → lv_has ls 5 [(0, .ref (ad 12)), (3, .int x3)] → lp_2 (q_X3_goOn_70 12 13 post (q_X3_goOn_101 12 13 post)) n_70 x3 σ → W p l e rm_X3_goOn s m args below meth c H locs 0 0 Q (F0 m 70 ls []) := by
    intro n_70
    induction n_70 with
    | zero => intro x3 σ H locs ls hP hD hS hl hp; exact hp.elim
    | succ n_70 ih_70 =>
      have B_95 : ∀ (x3 : Int32) (σ : Mem) (H : Heap) (locs : List Loc) (ls : Array Slot), va_P D vwCl (W5 k ad (σ)) H → va_D A (W5 k ad (σ)) → va_S A s.heap H locs → lv_has ls 5 [(0, .ref (ad 12)), (3, .int x3)] → (q_X3_goOn_95 12 13 post (q_X3_goOn_101 12 13 post) (lp_2 (q_X3_goOn_70 12 13 post (q_X3_goOn_101 12 13 post)) n_70)) x3 σ → W p l e rm_X3_goOn s m args below meth c H locs 0 0 Q (F0 m 95 ls []) := by
        intro x3 σ H locs ls hP hD hS hl hp
        unfold q_X3_goOn_95 at hp
        obtain ⟨v70001, ev70001⟩ : ∃ z : Int32, z = x3 + 1 := ⟨_, rfl⟩
        have hp := hp v70001 ev70001
        refine lv_iinc (v := v70001) (lv' := [(3, .int v70001), (0, .ref (ad 12))]) hx hb dX3_goOn_95 hl (k := 1) rfl (by rw [ev70001]; rfl) (by decide) rfl (fun ls hl => ?_)
        refine lv_goto (tgt := 70) hx hb dX3_goOn_98 (by decide) ?_
        exact ih_70 v70001 (σ) _ _ _  hP hD hS (lv_sub hl [1, 0] rfl) hp
      intro x3 σ H locs ls hP hD hS hl hp
      have hp : q_X3_goOn_70 12 13 post (q_X3_goOn_101 12 13 post) (lp_2 (q_X3_goOn_70 12 13 post (q_X3_goOn_101 12 13 post)) n_70) x3 σ := hp
      unfold q_X3_goOn_70 at hp
      refine lv_iload_n hx hb dX3_goOn_70 rfl (lv_at hl 1 rfl) ?_
      refine lv_aload_n hx hb dX3_goOn_71 rfl (lv_at hl 0 rfl) ?_
      refine va_get (D := D) (ci := 7) (C := RX3) (T := TX3) (N := 3) hx hb hts hin_X3 hown hK hP 12 rfl rfl 0 (by decide) hf_15 (fun _ h9 => h9) rfl dX3_goOn_72 ?_
      refine va_get (D := D) (ci := 6) (C := RX2) (T := TX2) (N := 11) hx hb hts hin_X2 hown hK hP 1 rfl rfl 9 (by decide) hf_53 (fun _ h9 => h9) rfl dX3_goOn_75 ?_
      refine lv_icmp_ge (tgt := 101) hx hb dX3_goOn_78 (by decide) (fun c60001 => ?_) (fun c60001 => ?_)
      · have hp := hp.1 c60001
        exact B_101  (σ) _ _ _  hP hD hS (lv_sub hl [0] rfl) hp
      · have hp := hp.2 c60001
        refine lv_aload_n hx hb dX3_goOn_81 rfl (lv_at hl 0 rfl) ?_
        refine va_get (D := D) (ci := 7) (C := RX3) (T := TX3) (N := 3) hx hb hts hin_X3 hown hK hP 12 rfl rfl 1 (by decide) hf_9 (fun _ h9 => h9) rfl dX3_goOn_82 ?_
        refine lv_iload_n hx hb dX3_goOn_85 rfl (lv_at hl 1 rfl) ?_
        obtain ⟨h60002, hp⟩ := hp
        refine va_iald hx hb hK hP 13 0 rfl rfl h60002 dX3_goOn_86 ?_
        refine lv_if_ne (tgt := 95) hx hb dX3_goOn_87 (by decide) (fun c60003 => ?_) (fun c60003 => ?_)
        · have hp := hp.1 c60003
          exact B_95 x3 (σ) _ _ _  hP hD hS (lv_sub hl [0, 1] rfl) hp
        · have hp := hp.2 c60003
          refine lv_aload_n hx hb dX3_goOn_90 rfl (lv_at hl 0 rfl) ?_
          refine lv_iconst (v := 1) hx hb dX3_goOn_91 (by decide) ?_
          refine va_put (D := D) (ci := 7) (v := .int 1) (ty := .boolean) (C := RX3) (T := TX3) (N := 3) hx hb hts hin_X3 tyX3 tyX3_ok nmX3 hown hK hP hD hS 12 rfl rfl 2 (by decide) hf_35 (fun _ h9 => h9) rfl (by decide +kernel) (by decide) (by decide) (Nat.le_of_ble_eq_true rfl) dX3_goOn_92 (fun H locs hP hD hS => ?_)
          obtain ⟨σ60004, eσ60004⟩ : ∃ z : Mem, z = mst (σ) 12 2 1 := ⟨_, rfl⟩
          have hp := hp σ60004 eσ60004
          have hP : va_P D vwCl (W5 k ad (σ60004)) H := by rw [eσ60004]; exact hP
          have hD : va_D A (W5 k ad (σ60004)) := by rw [eσ60004]; exact hD
          exact B_95 x3 (σ60004) _ _ _  hP hD hS (lv_sub hl [0, 1] rfl) hp
  have B_63 : ∀  (σ : Mem) (H : Heap) (locs : List Loc) (ls : Array Slot), va_P D vwCl (W5 k ad (σ)) H → va_D A (W5 k ad (σ)) → va_S A s.heap H locs → lv_has ls 5 [(0, .ref (ad 12))] → (q_X3_goOn_63 12 13 post)  σ → W p l e rm_X3_goOn s m args below meth c H locs 0 0 Q (F0 m 63 ls []) := by
    intro  σ H locs ls hP hD hS hl hp
    unfold q_X3_goOn_63 at hp
    refine lv_aload_n hx hb dX3_goOn_63 rfl (lv_at hl 0 rfl) ?_
    refine lv_iconst (v := 0) hx hb dX3_goOn_64 (by decide) ?_
    refine va_put (D := D) (ci := 7) (v := .int 0) (ty := .boolean) (C := RX3) (T := TX3) (N := 3) hx hb hts hin_X3 tyX3 tyX3_ok nmX3 hown hK hP hD hS 12 rfl rfl 2 (by decide) hf_35 (fun _ h9 => h9) rfl (by decide +kernel) (by decide) (by decide) (Nat.le_of_ble_eq_true rfl) dX3_goOn_65 (fun H locs hP hD hS => ?_)
    obtain ⟨σ50001, eσ50001⟩ : ∃ z : Mem, z = mst (σ) 12 2 0 := ⟨_, rfl⟩
    have hp := hp σ50001 eσ50001
    have hP : va_P D vwCl (W5 k ad (σ50001)) H := by rw [eσ50001]; exact hP
    have hD : va_D A (W5 k ad (σ50001)) := by rw [eσ50001]; exact hD
    refine lv_iconst (v := 0) hx hb dX3_goOn_68 (by decide) ?_
    refine lv_istore_n (lv' := [(3, .int 0), (0, .ref (ad 12))]) hx hb dX3_goOn_69 rfl hl (by decide) rfl (fun ls hl => ?_)
    obtain ⟨n9, hp⟩ := hp
    exact B_70 n9 0 (σ50001) _ _ _  hP hD hS (lv_sub hl [1, 0] rfl) hp
  have B_4 : ∀ (n_4 : Nat) (x1 : Int32) (x2 : Int32) (x3 : Int32) (σ : Mem) (H : Heap) (locs : List Loc) (ls : Array Slot), va_P D vwCl (W5 k ad (σ)) H → va_D A (W5 k ad (σ)) → va_S A s.heap H locs → lv_has ls 5 [(0, .ref (ad 12)), (1, .int x1), (2, .int x2), (3, .int x3)] → lp_4 (q_X3_goOn_4 12 13 post (q_X3_goOn_63 12 13 post)) n_4 x1 x2 x3 σ → W p l e rm_X3_goOn s m args below meth c H locs 0 0 Q (F0 m 4 ls []) := by
    intro n_4
    induction n_4 with
    | zero => intro x1 x2 x3 σ H locs ls hP hD hS hl hp; exact hp.elim
    | succ n_4 ih_4 =>
      have B_57 : ∀ (x1 : Int32) (x2 : Int32) (x3 : Int32) (σ : Mem) (H : Heap) (locs : List Loc) (ls : Array Slot), va_P D vwCl (W5 k ad (σ)) H → va_D A (W5 k ad (σ)) → va_S A s.heap H locs → lv_has ls 5 [(0, .ref (ad 12)), (1, .int x1), (2, .int x2), (3, .int x3)] → (q_X3_goOn_57 12 13 post (q_X3_goOn_63 12 13 post) (lp_4 (q_X3_goOn_4 12 13 post (q_X3_goOn_63 12 13 post)) n_4)) x1 x2 x3 σ → W p l e rm_X3_goOn s m args below meth c H locs 0 0 Q (F0 m 57 ls []) := by
        intro x1 x2 x3 σ H locs ls hP hD hS hl hp
        unfold q_X3_goOn_57 at hp
        obtain ⟨v40001, ev40001⟩ : ∃ z : Int32, z = x3 + 1 := ⟨_, rfl⟩
        have hp := hp v40001 ev40001
        refine lv_iinc (v := v40001) (lv' := [(3, .int v40001), (0, .ref (ad 12)), (1, .int x1), (2, .int x2)]) hx hb dX3_goOn_57 hl (k := 3) rfl (by rw [ev40001]; rfl) (by decide) rfl (fun ls hl => ?_)
        refine lv_goto (tgt := 4) hx hb dX3_goOn_60 (by decide) ?_
        exact ih_4 x1 x2 v40001 (σ) _ _ _  hP hD hS (lv_sub hl [1, 2, 3, 0] rfl) hp
      have B_19 : ∀ (n_19 : Nat) (x1 : Int32) (x2 : Int32) (x3 : Int32) (x4 : Int32) (σ : Mem) (H : Heap) (locs : List Loc) (ls : Array Slot), va_P D vwCl (W5 k ad (σ)) H → va_D A (W5 k ad (σ)) → va_S A s.heap H locs → lv_has ls 5 [(0, .ref (ad 12)), (1, .int x1), (2, .int x2), (3, .int x3), (4, .int x4)] → lp_5 (q_X3_goOn_19 12 13 post (q_X3_goOn_57 12 13 post (q_X3_goOn_63 12 13 post) (lp_4 (q_X3_goOn_4 12 13 post (q_X3_goOn_63 12 13 post)) n_4))) n_19 x1 x2 x3 x4 σ → W p l e rm_X3_goOn s m args below meth c H locs 0 0 Q (F0 m 19 ls []) := by
        intro n_19
        induction n_19 with
        | zero => intro x1 x2 x3 x4 σ H locs ls hP hD hS hl hp; exact hp.elim
        | succ n_19 ih_19 =>
          have B_51 : ∀ (x1 : Int32) (x2 : Int32) (x3 : Int32) (x4 : Int32) (σ : Mem) (H : Heap) (locs : List Loc) (ls : Array Slot), va_P D vwCl (W5 k ad (σ)) H → va_D A (W5 k ad (σ)) → va_S A s.heap H locs → lv_has ls 5 [(0, .ref (ad 12)), (1, .int x1), (2, .int x2), (3, .int x3), (4, .int x4)] → (q_X3_goOn_51 12 13 post (q_X3_goOn_57 12 13 post (q_X3_goOn_63 12 13 post) (lp_4 (q_X3_goOn_4 12 13 post (q_X3_goOn_63 12 13 post)) n_4)) (lp_5 (q_X3_goOn_19 12 13 post (q_X3_goOn_57 12 13 post (q_X3_goOn_63 12 13 post) (lp_4 (q_X3_goOn_4 12 13 post (q_X3_goOn_63 12 13 post)) n_4))) n_19)) x1 x2 x3 x4 σ → W p l e rm_X3_goOn s m args below meth c H locs 0 0 Q (F0 m 51 ls []) := by
            intro x1 x2 x3 x4 σ H locs ls hP hD hS hl hp
            unfold q_X3_goOn_51 at hp
            obtain ⟨v30001, ev30001⟩ : ∃ z : Int32, z = x4 + 1 := ⟨_, rfl⟩
            have hp := hp v30001 ev30001
            refine lv_iinc (v := v30001) (lv' := [(4, .int v30001), (0, .ref (ad 12)), (1, .int x1), (2, .int x2), (3, .int x3)]) hx hb dX3_goOn_51 hl (k := 4) rfl (by rw [ev30001]; rfl) (by decide) rfl (fun ls hl => ?_)
            refine lv_goto (tgt := 19) hx hb dX3_goOn_54 (by decide) ?_
            exact ih_19 x1 x2 x3 v30001 (σ) _ _ _  hP hD hS (lv_sub hl [1, 2, 3, 4, 0] rfl) hp
          intro x1 x2 x3 x4 σ H locs ls hP hD hS hl hp
          have hp : q_X3_goOn_19 12 13 post (q_X3_goOn_57 12 13 post (q_X3_goOn_63 12 13 post) (lp_4 (q_X3_goOn_4 12 13 post (q_X3_goOn_63 12 13 post)) n_4)) (lp_5 (q_X3_goOn_19 12 13 post (q_X3_goOn_57 12 13 post (q_X3_goOn_63 12 13 post) (lp_4 (q_X3_goOn_4 12 13 post (q_X3_goOn_63 12 13 post)) n_4))) n_19) x1 x2 x3 x4 σ := hp
          unfold q_X3_goOn_19 at hp
          refine lv_iload hx hb dX3_goOn_19 (lv_at hl 4 rfl) ?_
          refine lv_aload_n hx hb dX3_goOn_21 rfl (lv_at hl 0 rfl) ?_
          refine va_get (D := D) (ci := 7) (C := RX3) (T := TX3) (N := 3) hx hb hts hin_X3 hown hK hP 12 rfl rfl 0 (by decide) hf_15 (fun _ h9 => h9) rfl dX3_goOn_22 ?_
          refine va_get (D := D) (ci := 6) (C := RX2) (T := TX2) (N := 11) hx hb hts hin_X2 hown hK hP 1 rfl rfl 10 (by decide) hf_39 (fun _ h9 => h9) rfl dX3_goOn_25 ?_
          refine lv_icmp_ge (tgt := 57) hx hb dX3_goOn_28 (by decide) (fun c20001 => ?_) (fun c20001 => ?_)
          · have hp := hp.1 c20001
            exact B_57 x1 x2 x3 (σ) _ _ _  hP hD hS (lv_sub hl [0, 1, 2, 3] rfl) hp
          · have hp := hp.2 c20001
            refine lv_iload_n hx hb dX3_goOn_31 rfl (lv_at hl 1 rfl) ?_
            refine lv_iload hx hb dX3_goOn_32 (lv_at hl 4 rfl) ?_
            refine fw_ciSN (As := [.int x1, .int x4]) (rest := []) hC (c_X5_contains l D k hp) ⟨va_cnB 2 hts (gA_0 A_14) rfl rfl rfl (GG.nm hG (q := (RX3, 45, yX5_contains, "Meetjoin")) 2 rfl) (hts _ (List.mem_cons_of_mem _ A_25)) (by decide +kernel) ⟨Nat.le_of_ble_eq_true rfl, Nat.le_of_ble_eq_true rfl⟩, (hts _ (List.mem_cons_of_mem _ A_24)), trivial⟩ rfl hl.1 rfl (Nat.le_of_ble_eq_true rfl) dX3_goOn_34 ⟨Nat.le_of_ble_eq_true rfl, Nat.le_of_ble_eq_true rfl⟩ P_nil D_nil hS (Jn.pure (w0 := fun _ : Mem => []) hP hD) (fun r20002 σ20003 H locs hP hD hS hp => ?_)
            have hP : va_P D vwCl (W5 k ad (σ)) H := hP
            have hD : va_D A (W5 k ad (σ)) := hD
            refine lv_if_eq (tgt := 51) hx hb dX3_goOn_37 (by decide) (fun c20004 => ?_) (fun c20004 => ?_)
            · have hp := hp.1 c20004
              exact B_51 x1 x2 x3 x4 (σ) _ _ _  hP hD hS (lv_sub hl [0, 1, 2, 3, 4] rfl) hp
            · have hp := hp.2 c20004
              refine lv_aload_n hx hb dX3_goOn_40 rfl (lv_at hl 0 rfl) ?_
              refine lv_iload hx hb dX3_goOn_41 (lv_at hl 4 rfl) ?_
              refine fw_ciV (As := [.int x4]) (rest := []) hC (c_X3_takesAway_12 l D k ad hp) (cwV 1 hts (gA_V A_112 A_113 A_114 A_115 A_101) rfl rfl rfl (by decide +kernel) ⟨Nat.le_of_ble_eq_true rfl, Nat.le_of_ble_eq_true rfl⟩) (va_recv hK hP (ci := 7) (q0 := 12) rfl rfl) rfl hl.1 rfl (Nat.le_of_ble_eq_true rfl) dX3_goOn_43 ⟨Nat.le_of_ble_eq_true rfl, Nat.le_of_ble_eq_true rfl⟩ hP hD hS Jn.same (fun r20005 σ20006 H locs hP hD hS hp => ?_)
              have hP : va_P D vwCl (W5 k ad (σ20006)) H := hP
              have hD : va_D A (W5 k ad (σ20006)) := hD
              refine lv_if_eq (tgt := 51) hx hb dX3_goOn_46 (by decide) (fun c20007 => ?_) (fun c20007 => ?_)
              · have hp := hp.1 c20007
                exact B_51 x1 x2 x3 x4 (σ20006) _ _ _  hP hD hS (lv_sub hl [0, 1, 2, 3, 4] rfl) hp
              · have hp := hp.2 c20007
                refine lv_iconst (v := 1) hx hb dX3_goOn_49 (by decide) ?_
                refine lv_istore_n (lv' := [(2, .int 1), (0, .ref (ad 12)), (1, .int x1), (3, .int x3), (4, .int x4)]) hx hb dX3_goOn_50 rfl hl (by decide) rfl (fun ls hl => ?_)
                exact B_51 x1 1 x3 x4 (σ20006) _ _ _  hP hD hS (lv_sub hl [1, 2, 0, 3, 4] rfl) hp
      intro x1 x2 x3 σ H locs ls hP hD hS hl hp
      have hp : q_X3_goOn_4 12 13 post (q_X3_goOn_63 12 13 post) (lp_4 (q_X3_goOn_4 12 13 post (q_X3_goOn_63 12 13 post)) n_4) x1 x2 x3 σ := hp
      unfold q_X3_goOn_4 at hp
      refine lv_iload_n hx hb dX3_goOn_4 rfl (lv_at hl 2 rfl) ?_
      refine lv_if_eq (tgt := 63) hx hb dX3_goOn_5 (by decide) (fun c10001 => ?_) (fun c10001 => ?_)
      · have hp := hp.1 c10001
        exact B_63  (σ) _ _ _  hP hD hS (lv_sub hl [0] rfl) hp
      · have hp := hp.2 c10001
        refine lv_iload_n hx hb dX3_goOn_8 rfl (lv_at hl 3 rfl) ?_
        refine lv_bipush (v := 40) hx hb dX3_goOn_9 (by decide) ?_
        refine lv_icmp_gt (tgt := 63) hx hb dX3_goOn_11 (by decide) (fun c10002 => ?_) (fun c10002 => ?_)
        · have hp := hp.1 c10002
          exact B_63  (σ) _ _ _  hP hD hS (lv_sub hl [0] rfl) hp
        · have hp := hp.2 c10002
          refine lv_iconst (v := 0) hx hb dX3_goOn_14 (by decide) ?_
          refine lv_istore_n (lv' := [(2, .int 0), (0, .ref (ad 12)), (1, .int x1), (3, .int x3)]) hx hb dX3_goOn_15 rfl hl (by decide) rfl (fun ls hl => ?_)
          refine lv_iconst (v := 0) hx hb dX3_goOn_16 (by decide) ?_
          refine lv_istore (lv' := [(4, .int 0), (2, .int 0), (0, .ref (ad 12)), (1, .int x1), (3, .int x3)]) hx hb dX3_goOn_17 hl (by decide) rfl (fun ls hl => ?_)
          obtain ⟨n9, hp⟩ := hp
          exact B_19 n9 x1 0 x3 0 (σ) _ _ _  hP hD hS (lv_sub hl [2, 3, 1, 4, 0] rfl) hp
  refine lv_iconst (v := 1) hx hb dX3_goOn_0 (by decide) ?_
  refine lv_istore_n (lv' := [(2, .int 1), (0, .ref (ad 12)), (1, .int p1)]) hx hb dX3_goOn_1 rfl hl (by decide) rfl (fun ls hl => ?_)
  refine lv_iconst (v := 0) hx hb dX3_goOn_2 (by decide) ?_
  refine lv_istore_n (lv' := [(3, .int 0), (2, .int 1), (0, .ref (ad 12)), (1, .int p1)]) hx hb dX3_goOn_3 rfl hl (by decide) rfl (fun ls hl => ?_)
  obtain ⟨n9, hp⟩ := hp
  exact B_4 n9 p1 1 0 (σ) _ _ _  hP hD hS (lv_sub hl [2, 3, 1, 0] rfl) hp
set_option maxHeartbeats 4000000 in
set_option maxRecDepth 100000 in
theorem c_X3_goOn_14 (l : Launch) (D : va_G) (k ad : Nat → Nat) {sz : Nat} {σ : Mem} {p1 : Int32} {post : Mem → Prop} (hp : q_X3_goOn 14 15 post p1 σ) : Met l yX3_goOn wq_X3_goOn rm_X3_goOn (va_Pc [.ref (ad 14), .int p1] (Pw D k (W5 k ad (σ)) sz)) (va_Qv post (fun u => Bw D (W5 k ad (σ)) sz (W5 k ad u)) (va_A (W5 k ad (σ)) sz)) 0 0 (va_A (W5 k ad (σ)) sz) := by
  refine fw_v (wf := fun u : Mem => W5 k ad u) (by decide) rfl (Nat.le_of_ble_eq_true rfl) ?_
  intro p e s m args below meth c A Q ls hC hP hD hl hmn hret
  obtain ⟨⟨hx, hb, hml, hown, hts⟩, hG, hA⟩ := id hC
  have hK := hG.1
  have hS : va_S A s.heap s.heap [] := va_S.rf
  have hin_X3 : ∀ w ∈ u_ws RX3 TX3 3, w ∈ wq_X3_goOn := fun w h => List.mem_cons_of_mem _ (iU_X3 w h)
  have hf_35 := hts _ (List.mem_cons_of_mem _ A_110)
  have hf_15 := hts _ (List.mem_cons_of_mem _ A_100)
  have hin_X2 : ∀ w ∈ u_ws RX2 TX2 11, w ∈ wq_X3_goOn := fun w h => List.mem_cons_of_mem _ (iU_X2 w h)
  have hf_39 := hts _ (List.mem_cons_of_mem _ A_109)
  have hf_53 := hts _ (List.mem_cons_of_mem _ A_111)
  have hf_9 := hts _ (List.mem_cons_of_mem _ A_99)
  have hl : lv_has ls 5 [(0, .ref (ad 14)), (1, .int p1)] := hl
  have hown : s.vm.findClass RX3 = some m.cls := hown
  unfold q_X3_goOn at hp
  have B_116 : ∀  (σ : Mem) (H : Heap) (locs : List Loc) (ls : Array Slot), va_P D vwCl (W5 k ad (σ)) H → va_D A (W5 k ad (σ)) → va_S A s.heap H locs → lv_has ls 5 [] → (q_X3_goOn_116 14 15 post)  σ → W p l e rm_X3_goOn s m args below meth c H locs 0 0 Q (F0 m 116 ls []) := by
    intro  σ H locs ls hP hD hS hl hp
    unfold q_X3_goOn_116 at hp
    exact hret (σ) _ _ _ _ _ _ dX3_goOn_116 hP hD hS (Nat.le_of_ble_eq_true rfl) (Nat.le_of_ble_eq_true rfl) hp
  have B_101 : ∀  (σ : Mem) (H : Heap) (locs : List Loc) (ls : Array Slot), va_P D vwCl (W5 k ad (σ)) H → va_D A (W5 k ad (σ)) → va_S A s.heap H locs → lv_has ls 5 [(0, .ref (ad 14))] → (q_X3_goOn_101 14 15 post)  σ → W p l e rm_X3_goOn s m args below meth c H locs 0 0 Q (F0 m 101 ls []) := by
    intro  σ H locs ls hP hD hS hl hp
    unfold q_X3_goOn_101 at hp
    refine lv_aload_n hx hb dX3_goOn_101 rfl (lv_at hl 0 rfl) ?_
    refine va_get (D := D) (ci := 7) (C := RX3) (T := TX3) (N := 3) hx hb hts hin_X3 hown hK hP 14 rfl rfl 2 (by decide) hf_35 (fun _ h9 => h9) rfl dX3_goOn_102 ?_
    refine lv_if_eq (tgt := 116) hx hb dX3_goOn_105 (by decide) (fun c80001 => ?_) (fun c80001 => ?_)
    · have hp := hp.1 c80001
      exact B_116  (σ) _ _ _  hP hD hS (lv_sub hl [] rfl) hp
    · have hp := hp.2 c80001
      refine lv_aload_n hx hb dX3_goOn_108 rfl (lv_at hl 0 rfl) ?_
      refine va_get (D := D) (ci := 7) (C := RX3) (T := TX3) (N := 3) hx hb hts hin_X3 hown hK hP 14 rfl rfl 1 (by decide) hf_9 (fun _ h9 => h9) rfl dX3_goOn_109 ?_
      refine lv_iconst (v := 0) hx hb dX3_goOn_112 (by decide) ?_
      refine fw_cvS (As := [.ref (ad 15), .int 0]) (rest := []) hC (c_J7_fill l D k (ad 15) 5 ((σ) 15) 0 (by decide)) (va_cwS 2 hts (gA_S A_116 A_12 A_13 A_0) rfl rfl rfl (by decide +kernel) ⟨Nat.le_of_ble_eq_true rfl, Nat.le_of_ble_eq_true rfl⟩) rfl hl.1 rfl (Nat.le_of_ble_eq_true rfl) dX3_goOn_113 ⟨Nat.le_of_ble_eq_true rfl, Nat.le_of_ble_eq_true rfl⟩ (P_one (p := 15) hP rfl) (D_one (p := 15) hD rfl) hS (Jn.cell (p := 15) hP hD rfl) (fun u9 H locs hP hD hS hu9 => ?_)
      obtain rfl := hu9
      obtain ⟨σ80002, eσ80002⟩ : ∃ z : Mem, z = mup (σ) 15 (fl_row 5 0 ((σ) 15)) := ⟨_, rfl⟩
      have hp := hp σ80002 eσ80002
      have hP : va_P D vwCl (W5 k ad (σ80002)) H := by rw [eσ80002]; exact hP
      have hD : va_D A (W5 k ad (σ80002)) := by rw [eσ80002]; exact hD
      exact B_116  (σ80002) _ _ _  hP hD hS (lv_sub hl [] rfl) hp
  have B_70 : ∀ (n_70 : Nat) (x3 : Int32) (σ : Mem) (H : Heap) (locs : List Loc) (ls : Array Slot), va_P D vwCl (W5 k ad (σ)) H → va_D A (W5 k ad (σ)) → va_S A s.heap H locs → lv_has ls 5 [(0, .ref (ad 14)), (3, .int x3)] → lp_2 (q_X3_goOn_70 14 15 post (q_X3_goOn_101 14 15 post)) n_70 x3 σ → W p l e rm_X3_goOn s m args below meth c H locs 0 0 Q (F0 m 70 ls []) := by
    intro n_70
    induction n_70 with
    | zero => intro x3 σ H locs ls hP hD hS hl hp; exact hp.elim
    | succ n_70 ih_70 =>
      have B_95 : ∀ (x3 : Int32) (σ : Mem) (H : Heap) (locs : List Loc) (ls : Array Slot), va_P D vwCl (W5 k ad (σ)) H → va_D A (W5 k ad (σ)) → va_S A s.heap H locs → lv_has ls 5 [(0, .ref (ad 14)), (3, .int x3)] → (q_X3_goOn_95 14 15 post (q_X3_goOn_101 14 15 post) (lp_2 (q_X3_goOn_70 14 15 post (q_X3_goOn_101 14 15 post)) n_70)) x3 σ → W p l e rm_X3_goOn s m args below meth c H locs 0 0 Q (F0 m 95 ls []) := by
        intro x3 σ H locs ls hP hD hS hl hp
        unfold q_X3_goOn_95 at hp
        obtain ⟨v70001, ev70001⟩ : ∃ z : Int32, z = x3 + 1 := ⟨_, rfl⟩
        have hp := hp v70001 ev70001
        refine lv_iinc (v := v70001) (lv' := [(3, .int v70001), (0, .ref (ad 14))]) hx hb dX3_goOn_95 hl (k := 1) rfl (by rw [ev70001]; rfl) (by decide) rfl (fun ls hl => ?_)
        refine lv_goto (tgt := 70) hx hb dX3_goOn_98 (by decide) ?_
        exact ih_70 v70001 (σ) _ _ _  hP hD hS (lv_sub hl [1, 0] rfl) hp
      intro x3 σ H locs ls hP hD hS hl hp
      have hp : q_X3_goOn_70 14 15 post (q_X3_goOn_101 14 15 post) (lp_2 (q_X3_goOn_70 14 15 post (q_X3_goOn_101 14 15 post)) n_70) x3 σ := hp
      unfold q_X3_goOn_70 at hp
      refine lv_iload_n hx hb dX3_goOn_70 rfl (lv_at hl 1 rfl) ?_
      refine lv_aload_n hx hb dX3_goOn_71 rfl (lv_at hl 0 rfl) ?_
      refine va_get (D := D) (ci := 7) (C := RX3) (T := TX3) (N := 3) hx hb hts hin_X3 hown hK hP 14 rfl rfl 0 (by decide) hf_15 (fun _ h9 => h9) rfl dX3_goOn_72 ?_
      refine va_get (D := D) (ci := 6) (C := RX2) (T := TX2) (N := 11) hx hb hts hin_X2 hown hK hP 1 rfl rfl 9 (by decide) hf_53 (fun _ h9 => h9) rfl dX3_goOn_75 ?_
      refine lv_icmp_ge (tgt := 101) hx hb dX3_goOn_78 (by decide) (fun c60001 => ?_) (fun c60001 => ?_)
      · have hp := hp.1 c60001
        exact B_101  (σ) _ _ _  hP hD hS (lv_sub hl [0] rfl) hp
      · have hp := hp.2 c60001
        refine lv_aload_n hx hb dX3_goOn_81 rfl (lv_at hl 0 rfl) ?_
        refine va_get (D := D) (ci := 7) (C := RX3) (T := TX3) (N := 3) hx hb hts hin_X3 hown hK hP 14 rfl rfl 1 (by decide) hf_9 (fun _ h9 => h9) rfl dX3_goOn_82 ?_
        refine lv_iload_n hx hb dX3_goOn_85 rfl (lv_at hl 1 rfl) ?_
        obtain ⟨h60002, hp⟩ := hp
        refine va_iald hx hb hK hP 15 0 rfl rfl h60002 dX3_goOn_86 ?_
        refine lv_if_ne (tgt := 95) hx hb dX3_goOn_87 (by decide) (fun c60003 => ?_) (fun c60003 => ?_)
        · have hp := hp.1 c60003
          exact B_95 x3 (σ) _ _ _  hP hD hS (lv_sub hl [0, 1] rfl) hp
        · have hp := hp.2 c60003
          refine lv_aload_n hx hb dX3_goOn_90 rfl (lv_at hl 0 rfl) ?_
          refine lv_iconst (v := 1) hx hb dX3_goOn_91 (by decide) ?_
          refine va_put (D := D) (ci := 7) (v := .int 1) (ty := .boolean) (C := RX3) (T := TX3) (N := 3) hx hb hts hin_X3 tyX3 tyX3_ok nmX3 hown hK hP hD hS 14 rfl rfl 2 (by decide) hf_35 (fun _ h9 => h9) rfl (by decide +kernel) (by decide) (by decide) (Nat.le_of_ble_eq_true rfl) dX3_goOn_92 (fun H locs hP hD hS => ?_)
          obtain ⟨σ60004, eσ60004⟩ : ∃ z : Mem, z = mst (σ) 14 2 1 := ⟨_, rfl⟩
          have hp := hp σ60004 eσ60004
          have hP : va_P D vwCl (W5 k ad (σ60004)) H := by rw [eσ60004]; exact hP
          have hD : va_D A (W5 k ad (σ60004)) := by rw [eσ60004]; exact hD
          exact B_95 x3 (σ60004) _ _ _  hP hD hS (lv_sub hl [0, 1] rfl) hp
  have B_63 : ∀  (σ : Mem) (H : Heap) (locs : List Loc) (ls : Array Slot), va_P D vwCl (W5 k ad (σ)) H → va_D A (W5 k ad (σ)) → va_S A s.heap H locs → lv_has ls 5 [(0, .ref (ad 14))] → (q_X3_goOn_63 14 15 post)  σ → W p l e rm_X3_goOn s m args below meth c H locs 0 0 Q (F0 m 63 ls []) := by
    intro  σ H locs ls hP hD hS hl hp
    unfold q_X3_goOn_63 at hp
    refine lv_aload_n hx hb dX3_goOn_63 rfl (lv_at hl 0 rfl) ?_
    refine lv_iconst (v := 0) hx hb dX3_goOn_64 (by decide) ?_
    refine va_put (D := D) (ci := 7) (v := .int 0) (ty := .boolean) (C := RX3) (T := TX3) (N := 3) hx hb hts hin_X3 tyX3 tyX3_ok nmX3 hown hK hP hD hS 14 rfl rfl 2 (by decide) hf_35 (fun _ h9 => h9) rfl (by decide +kernel) (by decide) (by decide) (Nat.le_of_ble_eq_true rfl) dX3_goOn_65 (fun H locs hP hD hS => ?_)
    obtain ⟨σ50001, eσ50001⟩ : ∃ z : Mem, z = mst (σ) 14 2 0 := ⟨_, rfl⟩
    have hp := hp σ50001 eσ50001
    have hP : va_P D vwCl (W5 k ad (σ50001)) H := by rw [eσ50001]; exact hP
    have hD : va_D A (W5 k ad (σ50001)) := by rw [eσ50001]; exact hD
    refine lv_iconst (v := 0) hx hb dX3_goOn_68 (by decide) ?_
    refine lv_istore_n (lv' := [(3, .int 0), (0, .ref (ad 14))]) hx hb dX3_goOn_69 rfl hl (by decide) rfl (fun ls hl => ?_)
    obtain ⟨n9, hp⟩ := hp
    exact B_70 n9 0 (σ50001) _ _ _  hP hD hS (lv_sub hl [1, 0] rfl) hp
  have B_4 : ∀ (n_4 : Nat) (x1 : Int32) (x2 : Int32) (x3 : Int32) (σ : Mem) (H : Heap) (locs : List Loc) (ls : Array Slot), va_P D vwCl (W5 k ad (σ)) H → va_D A (W5 k ad (σ)) → va_S A s.heap H locs → lv_has ls 5 [(0, .ref (ad 14)), (1, .int x1), (2, .int x2), (3, .int x3)] → lp_4 (q_X3_goOn_4 14 15 post (q_X3_goOn_63 14 15 post)) n_4 x1 x2 x3 σ → W p l e rm_X3_goOn s m args below meth c H locs 0 0 Q (F0 m 4 ls []) := by
    intro n_4
    induction n_4 with
    | zero => intro x1 x2 x3 σ H locs ls hP hD hS hl hp; exact hp.elim
    | succ n_4 ih_4 =>
      have B_57 : ∀ (x1 : Int32) (x2 : Int32) (x3 : Int32) (σ : Mem) (H : Heap) (locs : List Loc) (ls : Array Slot), va_P D vwCl (W5 k ad (σ)) H → va_D A (W5 k ad (σ)) → va_S A s.heap H locs → lv_has ls 5 [(0, .ref (ad 14)), (1, .int x1), (2, .int x2), (3, .int x3)] → (q_X3_goOn_57 14 15 post (q_X3_goOn_63 14 15 post) (lp_4 (q_X3_goOn_4 14 15 post (q_X3_goOn_63 14 15 post)) n_4)) x1 x2 x3 σ → W p l e rm_X3_goOn s m args below meth c H locs 0 0 Q (F0 m 57 ls []) := by
        intro x1 x2 x3 σ H locs ls hP hD hS hl hp
        unfold q_X3_goOn_57 at hp
        obtain ⟨v40001, ev40001⟩ : ∃ z : Int32, z = x3 + 1 := ⟨_, rfl⟩
        have hp := hp v40001 ev40001
        refine lv_iinc (v := v40001) (lv' := [(3, .int v40001), (0, .ref (ad 14)), (1, .int x1), (2, .int x2)]) hx hb dX3_goOn_57 hl (k := 3) rfl (by rw [ev40001]; rfl) (by decide) rfl (fun ls hl => ?_)
        refine lv_goto (tgt := 4) hx hb dX3_goOn_60 (by decide) ?_
        exact ih_4 x1 x2 v40001 (σ) _ _ _  hP hD hS (lv_sub hl [1, 2, 3, 0] rfl) hp
      have B_19 : ∀ (n_19 : Nat) (x1 : Int32) (x2 : Int32) (x3 : Int32) (x4 : Int32) (σ : Mem) (H : Heap) (locs : List Loc) (ls : Array Slot), va_P D vwCl (W5 k ad (σ)) H → va_D A (W5 k ad (σ)) → va_S A s.heap H locs → lv_has ls 5 [(0, .ref (ad 14)), (1, .int x1), (2, .int x2), (3, .int x3), (4, .int x4)] → lp_5 (q_X3_goOn_19 14 15 post (q_X3_goOn_57 14 15 post (q_X3_goOn_63 14 15 post) (lp_4 (q_X3_goOn_4 14 15 post (q_X3_goOn_63 14 15 post)) n_4))) n_19 x1 x2 x3 x4 σ → W p l e rm_X3_goOn s m args below meth c H locs 0 0 Q (F0 m 19 ls []) := by
        intro n_19
        induction n_19 with
        | zero => intro x1 x2 x3 x4 σ H locs ls hP hD hS hl hp; exact hp.elim
        | succ n_19 ih_19 =>
          have B_51 : ∀ (x1 : Int32) (x2 : Int32) (x3 : Int32) (x4 : Int32) (σ : Mem) (H : Heap) (locs : List Loc) (ls : Array Slot), va_P D vwCl (W5 k ad (σ)) H → va_D A (W5 k ad (σ)) → va_S A s.heap H locs → lv_has ls 5 [(0, .ref (ad 14)), (1, .int x1), (2, .int x2), (3, .int x3), (4, .int x4)] → (q_X3_goOn_51 14 15 post (q_X3_goOn_57 14 15 post (q_X3_goOn_63 14 15 post) (lp_4 (q_X3_goOn_4 14 15 post (q_X3_goOn_63 14 15 post)) n_4)) (lp_5 (q_X3_goOn_19 14 15 post (q_X3_goOn_57 14 15 post (q_X3_goOn_63 14 15 post) (lp_4 (q_X3_goOn_4 14 15 post (q_X3_goOn_63 14 15 post)) n_4))) n_19)) x1 x2 x3 x4 σ → W p l e rm_X3_goOn s m args below meth c H locs 0 0 Q (F0 m 51 ls []) := by
            intro x1 x2 x3 x4 σ H locs ls hP hD hS hl hp
            unfold q_X3_goOn_51 at hp
            obtain ⟨v30001, ev30001⟩ : ∃ z : Int32, z = x4 + 1 := ⟨_, rfl⟩
            have hp := hp v30001 ev30001
            refine lv_iinc (v := v30001) (lv' := [(4, .int v30001), (0, .ref (ad 14)), (1, .int x1), (2, .int x2), (3, .int x3)]) hx hb dX3_goOn_51 hl (k := 4) rfl (by rw [ev30001]; rfl) (by decide) rfl (fun ls hl => ?_)
            refine lv_goto (tgt := 19) hx hb dX3_goOn_54 (by decide) ?_
            exact ih_19 x1 x2 x3 v30001 (σ) _ _ _  hP hD hS (lv_sub hl [1, 2, 3, 4, 0] rfl) hp
          intro x1 x2 x3 x4 σ H locs ls hP hD hS hl hp
          have hp : q_X3_goOn_19 14 15 post (q_X3_goOn_57 14 15 post (q_X3_goOn_63 14 15 post) (lp_4 (q_X3_goOn_4 14 15 post (q_X3_goOn_63 14 15 post)) n_4)) (lp_5 (q_X3_goOn_19 14 15 post (q_X3_goOn_57 14 15 post (q_X3_goOn_63 14 15 post) (lp_4 (q_X3_goOn_4 14 15 post (q_X3_goOn_63 14 15 post)) n_4))) n_19) x1 x2 x3 x4 σ := hp
          unfold q_X3_goOn_19 at hp
          refine lv_iload hx hb dX3_goOn_19 (lv_at hl 4 rfl) ?_
          refine lv_aload_n hx hb dX3_goOn_21 rfl (lv_at hl 0 rfl) ?_
          refine va_get (D := D) (ci := 7) (C := RX3) (T := TX3) (N := 3) hx hb hts hin_X3 hown hK hP 14 rfl rfl 0 (by decide) hf_15 (fun _ h9 => h9) rfl dX3_goOn_22 ?_
          refine va_get (D := D) (ci := 6) (C := RX2) (T := TX2) (N := 11) hx hb hts hin_X2 hown hK hP 1 rfl rfl 10 (by decide) hf_39 (fun _ h9 => h9) rfl dX3_goOn_25 ?_
          refine lv_icmp_ge (tgt := 57) hx hb dX3_goOn_28 (by decide) (fun c20001 => ?_) (fun c20001 => ?_)
          · have hp := hp.1 c20001
            exact B_57 x1 x2 x3 (σ) _ _ _  hP hD hS (lv_sub hl [0, 1, 2, 3] rfl) hp
          · have hp := hp.2 c20001
            refine lv_iload_n hx hb dX3_goOn_31 rfl (lv_at hl 1 rfl) ?_
            refine lv_iload hx hb dX3_goOn_32 (lv_at hl 4 rfl) ?_
            refine fw_ciSN (As := [.int x1, .int x4]) (rest := []) hC (c_X5_contains l D k hp) ⟨va_cnB 2 hts (gA_0 A_14) rfl rfl rfl (GG.nm hG (q := (RX3, 45, yX5_contains, "Meetjoin")) 2 rfl) (hts _ (List.mem_cons_of_mem _ A_25)) (by decide +kernel) ⟨Nat.le_of_ble_eq_true rfl, Nat.le_of_ble_eq_true rfl⟩, (hts _ (List.mem_cons_of_mem _ A_24)), trivial⟩ rfl hl.1 rfl (Nat.le_of_ble_eq_true rfl) dX3_goOn_34 ⟨Nat.le_of_ble_eq_true rfl, Nat.le_of_ble_eq_true rfl⟩ P_nil D_nil hS (Jn.pure (w0 := fun _ : Mem => []) hP hD) (fun r20002 σ20003 H locs hP hD hS hp => ?_)
            have hP : va_P D vwCl (W5 k ad (σ)) H := hP
            have hD : va_D A (W5 k ad (σ)) := hD
            refine lv_if_eq (tgt := 51) hx hb dX3_goOn_37 (by decide) (fun c20004 => ?_) (fun c20004 => ?_)
            · have hp := hp.1 c20004
              exact B_51 x1 x2 x3 x4 (σ) _ _ _  hP hD hS (lv_sub hl [0, 1, 2, 3, 4] rfl) hp
            · have hp := hp.2 c20004
              refine lv_aload_n hx hb dX3_goOn_40 rfl (lv_at hl 0 rfl) ?_
              refine lv_iload hx hb dX3_goOn_41 (lv_at hl 4 rfl) ?_
              refine fw_ciV (As := [.int x4]) (rest := []) hC (c_X3_takesAway_14 l D k ad hp) (cwV 1 hts (gA_V A_112 A_113 A_114 A_115 A_101) rfl rfl rfl (by decide +kernel) ⟨Nat.le_of_ble_eq_true rfl, Nat.le_of_ble_eq_true rfl⟩) (va_recv hK hP (ci := 7) (q0 := 14) rfl rfl) rfl hl.1 rfl (Nat.le_of_ble_eq_true rfl) dX3_goOn_43 ⟨Nat.le_of_ble_eq_true rfl, Nat.le_of_ble_eq_true rfl⟩ hP hD hS Jn.same (fun r20005 σ20006 H locs hP hD hS hp => ?_)
              have hP : va_P D vwCl (W5 k ad (σ20006)) H := hP
              have hD : va_D A (W5 k ad (σ20006)) := hD
              refine lv_if_eq (tgt := 51) hx hb dX3_goOn_46 (by decide) (fun c20007 => ?_) (fun c20007 => ?_)
              · have hp := hp.1 c20007
                exact B_51 x1 x2 x3 x4 (σ20006) _ _ _  hP hD hS (lv_sub hl [0, 1, 2, 3, 4] rfl) hp
              · have hp := hp.2 c20007
                refine lv_iconst (v := 1) hx hb dX3_goOn_49 (by decide) ?_
                refine lv_istore_n (lv' := [(2, .int 1), (0, .ref (ad 14)), (1, .int x1), (3, .int x3), (4, .int x4)]) hx hb dX3_goOn_50 rfl hl (by decide) rfl (fun ls hl => ?_)
                exact B_51 x1 1 x3 x4 (σ20006) _ _ _  hP hD hS (lv_sub hl [1, 2, 0, 3, 4] rfl) hp
      intro x1 x2 x3 σ H locs ls hP hD hS hl hp
      have hp : q_X3_goOn_4 14 15 post (q_X3_goOn_63 14 15 post) (lp_4 (q_X3_goOn_4 14 15 post (q_X3_goOn_63 14 15 post)) n_4) x1 x2 x3 σ := hp
      unfold q_X3_goOn_4 at hp
      refine lv_iload_n hx hb dX3_goOn_4 rfl (lv_at hl 2 rfl) ?_
      refine lv_if_eq (tgt := 63) hx hb dX3_goOn_5 (by decide) (fun c10001 => ?_) (fun c10001 => ?_)
      · have hp := hp.1 c10001
        exact B_63  (σ) _ _ _  hP hD hS (lv_sub hl [0] rfl) hp
      · have hp := hp.2 c10001
        refine lv_iload_n hx hb dX3_goOn_8 rfl (lv_at hl 3 rfl) ?_
        refine lv_bipush (v := 40) hx hb dX3_goOn_9 (by decide) ?_
        refine lv_icmp_gt (tgt := 63) hx hb dX3_goOn_11 (by decide) (fun c10002 => ?_) (fun c10002 => ?_)
        · have hp := hp.1 c10002
          exact B_63  (σ) _ _ _  hP hD hS (lv_sub hl [0] rfl) hp
        · have hp := hp.2 c10002
          refine lv_iconst (v := 0) hx hb dX3_goOn_14 (by decide) ?_
          refine lv_istore_n (lv' := [(2, .int 0), (0, .ref (ad 14)), (1, .int x1), (3, .int x3)]) hx hb dX3_goOn_15 rfl hl (by decide) rfl (fun ls hl => ?_)
          refine lv_iconst (v := 0) hx hb dX3_goOn_16 (by decide) ?_
          refine lv_istore (lv' := [(4, .int 0), (2, .int 0), (0, .ref (ad 14)), (1, .int x1), (3, .int x3)]) hx hb dX3_goOn_17 hl (by decide) rfl (fun ls hl => ?_)
          obtain ⟨n9, hp⟩ := hp
          exact B_19 n9 x1 0 x3 0 (σ) _ _ _  hP hD hS (lv_sub hl [2, 3, 1, 4, 0] rfl) hp
  refine lv_iconst (v := 1) hx hb dX3_goOn_0 (by decide) ?_
  refine lv_istore_n (lv' := [(2, .int 1), (0, .ref (ad 14)), (1, .int p1)]) hx hb dX3_goOn_1 rfl hl (by decide) rfl (fun ls hl => ?_)
  refine lv_iconst (v := 0) hx hb dX3_goOn_2 (by decide) ?_
  refine lv_istore_n (lv' := [(3, .int 0), (2, .int 1), (0, .ref (ad 14)), (1, .int p1)]) hx hb dX3_goOn_3 rfl hl (by decide) rfl (fun ls hl => ?_)
  obtain ⟨n9, hp⟩ := hp
  exact B_4 n9 p1 1 0 (σ) _ _ _  hP hD hS (lv_sub hl [2, 3, 1, 0] rfl) hp
set_option maxHeartbeats 4000000 in
set_option maxRecDepth 100000 in
theorem c_X3_goOn_16 (l : Launch) (D : va_G) (k ad : Nat → Nat) {sz : Nat} {σ : Mem} {p1 : Int32} {post : Mem → Prop} (hp : q_X3_goOn 16 17 post p1 σ) : Met l yX3_goOn wq_X3_goOn rm_X3_goOn (va_Pc [.ref (ad 16), .int p1] (Pw D k (W5 k ad (σ)) sz)) (va_Qv post (fun u => Bw D (W5 k ad (σ)) sz (W5 k ad u)) (va_A (W5 k ad (σ)) sz)) 0 0 (va_A (W5 k ad (σ)) sz) := by
  refine fw_v (wf := fun u : Mem => W5 k ad u) (by decide) rfl (Nat.le_of_ble_eq_true rfl) ?_
  intro p e s m args below meth c A Q ls hC hP hD hl hmn hret
  obtain ⟨⟨hx, hb, hml, hown, hts⟩, hG, hA⟩ := id hC
  have hK := hG.1
  have hS : va_S A s.heap s.heap [] := va_S.rf
  have hin_X3 : ∀ w ∈ u_ws RX3 TX3 3, w ∈ wq_X3_goOn := fun w h => List.mem_cons_of_mem _ (iU_X3 w h)
  have hf_35 := hts _ (List.mem_cons_of_mem _ A_110)
  have hf_15 := hts _ (List.mem_cons_of_mem _ A_100)
  have hin_X2 : ∀ w ∈ u_ws RX2 TX2 11, w ∈ wq_X3_goOn := fun w h => List.mem_cons_of_mem _ (iU_X2 w h)
  have hf_39 := hts _ (List.mem_cons_of_mem _ A_109)
  have hf_53 := hts _ (List.mem_cons_of_mem _ A_111)
  have hf_9 := hts _ (List.mem_cons_of_mem _ A_99)
  have hl : lv_has ls 5 [(0, .ref (ad 16)), (1, .int p1)] := hl
  have hown : s.vm.findClass RX3 = some m.cls := hown
  unfold q_X3_goOn at hp
  have B_116 : ∀  (σ : Mem) (H : Heap) (locs : List Loc) (ls : Array Slot), va_P D vwCl (W5 k ad (σ)) H → va_D A (W5 k ad (σ)) → va_S A s.heap H locs → lv_has ls 5 [] → (q_X3_goOn_116 16 17 post)  σ → W p l e rm_X3_goOn s m args below meth c H locs 0 0 Q (F0 m 116 ls []) := by
    intro  σ H locs ls hP hD hS hl hp
    unfold q_X3_goOn_116 at hp
    exact hret (σ) _ _ _ _ _ _ dX3_goOn_116 hP hD hS (Nat.le_of_ble_eq_true rfl) (Nat.le_of_ble_eq_true rfl) hp
  have B_101 : ∀  (σ : Mem) (H : Heap) (locs : List Loc) (ls : Array Slot), va_P D vwCl (W5 k ad (σ)) H → va_D A (W5 k ad (σ)) → va_S A s.heap H locs → lv_has ls 5 [(0, .ref (ad 16))] → (q_X3_goOn_101 16 17 post)  σ → W p l e rm_X3_goOn s m args below meth c H locs 0 0 Q (F0 m 101 ls []) := by
    intro  σ H locs ls hP hD hS hl hp
    unfold q_X3_goOn_101 at hp
    refine lv_aload_n hx hb dX3_goOn_101 rfl (lv_at hl 0 rfl) ?_
    refine va_get (D := D) (ci := 7) (C := RX3) (T := TX3) (N := 3) hx hb hts hin_X3 hown hK hP 16 rfl rfl 2 (by decide) hf_35 (fun _ h9 => h9) rfl dX3_goOn_102 ?_
    refine lv_if_eq (tgt := 116) hx hb dX3_goOn_105 (by decide) (fun c80001 => ?_) (fun c80001 => ?_)
    · have hp := hp.1 c80001
      exact B_116  (σ) _ _ _  hP hD hS (lv_sub hl [] rfl) hp
    · have hp := hp.2 c80001
      refine lv_aload_n hx hb dX3_goOn_108 rfl (lv_at hl 0 rfl) ?_
      refine va_get (D := D) (ci := 7) (C := RX3) (T := TX3) (N := 3) hx hb hts hin_X3 hown hK hP 16 rfl rfl 1 (by decide) hf_9 (fun _ h9 => h9) rfl dX3_goOn_109 ?_
      refine lv_iconst (v := 0) hx hb dX3_goOn_112 (by decide) ?_
      refine fw_cvS (As := [.ref (ad 17), .int 0]) (rest := []) hC (c_J7_fill l D k (ad 17) 5 ((σ) 17) 0 (by decide)) (va_cwS 2 hts (gA_S A_116 A_12 A_13 A_0) rfl rfl rfl (by decide +kernel) ⟨Nat.le_of_ble_eq_true rfl, Nat.le_of_ble_eq_true rfl⟩) rfl hl.1 rfl (Nat.le_of_ble_eq_true rfl) dX3_goOn_113 ⟨Nat.le_of_ble_eq_true rfl, Nat.le_of_ble_eq_true rfl⟩ (P_one (p := 17) hP rfl) (D_one (p := 17) hD rfl) hS (Jn.cell (p := 17) hP hD rfl) (fun u9 H locs hP hD hS hu9 => ?_)
      obtain rfl := hu9
      obtain ⟨σ80002, eσ80002⟩ : ∃ z : Mem, z = mup (σ) 17 (fl_row 5 0 ((σ) 17)) := ⟨_, rfl⟩
      have hp := hp σ80002 eσ80002
      have hP : va_P D vwCl (W5 k ad (σ80002)) H := by rw [eσ80002]; exact hP
      have hD : va_D A (W5 k ad (σ80002)) := by rw [eσ80002]; exact hD
      exact B_116  (σ80002) _ _ _  hP hD hS (lv_sub hl [] rfl) hp
  have B_70 : ∀ (n_70 : Nat) (x3 : Int32) (σ : Mem) (H : Heap) (locs : List Loc) (ls : Array Slot), va_P D vwCl (W5 k ad (σ)) H → va_D A (W5 k ad (σ)) → va_S A s.heap H locs → lv_has ls 5 [(0, .ref (ad 16)), (3, .int x3)] → lp_2 (q_X3_goOn_70 16 17 post (q_X3_goOn_101 16 17 post)) n_70 x3 σ → W p l e rm_X3_goOn s m args below meth c H locs 0 0 Q (F0 m 70 ls []) := by
    intro n_70
    induction n_70 with
    | zero => intro x3 σ H locs ls hP hD hS hl hp; exact hp.elim
    | succ n_70 ih_70 =>
      have B_95 : ∀ (x3 : Int32) (σ : Mem) (H : Heap) (locs : List Loc) (ls : Array Slot), va_P D vwCl (W5 k ad (σ)) H → va_D A (W5 k ad (σ)) → va_S A s.heap H locs → lv_has ls 5 [(0, .ref (ad 16)), (3, .int x3)] → (q_X3_goOn_95 16 17 post (q_X3_goOn_101 16 17 post) (lp_2 (q_X3_goOn_70 16 17 post (q_X3_goOn_101 16 17 post)) n_70)) x3 σ → W p l e rm_X3_goOn s m args below meth c H locs 0 0 Q (F0 m 95 ls []) := by
        intro x3 σ H locs ls hP hD hS hl hp
        unfold q_X3_goOn_95 at hp
        obtain ⟨v70001, ev70001⟩ : ∃ z : Int32, z = x3 + 1 := ⟨_, rfl⟩
        have hp := hp v70001 ev70001
        refine lv_iinc (v := v70001) (lv' := [(3, .int v70001), (0, .ref (ad 16))]) hx hb dX3_goOn_95 hl (k := 1) rfl (by rw [ev70001]; rfl) (by decide) rfl (fun ls hl => ?_)
        refine lv_goto (tgt := 70) hx hb dX3_goOn_98 (by decide) ?_
        exact ih_70 v70001 (σ) _ _ _  hP hD hS (lv_sub hl [1, 0] rfl) hp
      intro x3 σ H locs ls hP hD hS hl hp
      have hp : q_X3_goOn_70 16 17 post (q_X3_goOn_101 16 17 post) (lp_2 (q_X3_goOn_70 16 17 post (q_X3_goOn_101 16 17 post)) n_70) x3 σ := hp
      unfold q_X3_goOn_70 at hp
      refine lv_iload_n hx hb dX3_goOn_70 rfl (lv_at hl 1 rfl) ?_
      refine lv_aload_n hx hb dX3_goOn_71 rfl (lv_at hl 0 rfl) ?_
      refine va_get (D := D) (ci := 7) (C := RX3) (T := TX3) (N := 3) hx hb hts hin_X3 hown hK hP 16 rfl rfl 0 (by decide) hf_15 (fun _ h9 => h9) rfl dX3_goOn_72 ?_
      refine va_get (D := D) (ci := 6) (C := RX2) (T := TX2) (N := 11) hx hb hts hin_X2 hown hK hP 1 rfl rfl 9 (by decide) hf_53 (fun _ h9 => h9) rfl dX3_goOn_75 ?_
      refine lv_icmp_ge (tgt := 101) hx hb dX3_goOn_78 (by decide) (fun c60001 => ?_) (fun c60001 => ?_)
      · have hp := hp.1 c60001
        exact B_101  (σ) _ _ _  hP hD hS (lv_sub hl [0] rfl) hp
      · have hp := hp.2 c60001
        refine lv_aload_n hx hb dX3_goOn_81 rfl (lv_at hl 0 rfl) ?_
        refine va_get (D := D) (ci := 7) (C := RX3) (T := TX3) (N := 3) hx hb hts hin_X3 hown hK hP 16 rfl rfl 1 (by decide) hf_9 (fun _ h9 => h9) rfl dX3_goOn_82 ?_
        refine lv_iload_n hx hb dX3_goOn_85 rfl (lv_at hl 1 rfl) ?_
        obtain ⟨h60002, hp⟩ := hp
        refine va_iald hx hb hK hP 17 0 rfl rfl h60002 dX3_goOn_86 ?_
        refine lv_if_ne (tgt := 95) hx hb dX3_goOn_87 (by decide) (fun c60003 => ?_) (fun c60003 => ?_)
        · have hp := hp.1 c60003
          exact B_95 x3 (σ) _ _ _  hP hD hS (lv_sub hl [0, 1] rfl) hp
        · have hp := hp.2 c60003
          refine lv_aload_n hx hb dX3_goOn_90 rfl (lv_at hl 0 rfl) ?_
          refine lv_iconst (v := 1) hx hb dX3_goOn_91 (by decide) ?_
          refine va_put (D := D) (ci := 7) (v := .int 1) (ty := .boolean) (C := RX3) (T := TX3) (N := 3) hx hb hts hin_X3 tyX3 tyX3_ok nmX3 hown hK hP hD hS 16 rfl rfl 2 (by decide) hf_35 (fun _ h9 => h9) rfl (by decide +kernel) (by decide) (by decide) (Nat.le_of_ble_eq_true rfl) dX3_goOn_92 (fun H locs hP hD hS => ?_)
          obtain ⟨σ60004, eσ60004⟩ : ∃ z : Mem, z = mst (σ) 16 2 1 := ⟨_, rfl⟩
          have hp := hp σ60004 eσ60004
          have hP : va_P D vwCl (W5 k ad (σ60004)) H := by rw [eσ60004]; exact hP
          have hD : va_D A (W5 k ad (σ60004)) := by rw [eσ60004]; exact hD
          exact B_95 x3 (σ60004) _ _ _  hP hD hS (lv_sub hl [0, 1] rfl) hp
  have B_63 : ∀  (σ : Mem) (H : Heap) (locs : List Loc) (ls : Array Slot), va_P D vwCl (W5 k ad (σ)) H → va_D A (W5 k ad (σ)) → va_S A s.heap H locs → lv_has ls 5 [(0, .ref (ad 16))] → (q_X3_goOn_63 16 17 post)  σ → W p l e rm_X3_goOn s m args below meth c H locs 0 0 Q (F0 m 63 ls []) := by
    intro  σ H locs ls hP hD hS hl hp
    unfold q_X3_goOn_63 at hp
    refine lv_aload_n hx hb dX3_goOn_63 rfl (lv_at hl 0 rfl) ?_
    refine lv_iconst (v := 0) hx hb dX3_goOn_64 (by decide) ?_
    refine va_put (D := D) (ci := 7) (v := .int 0) (ty := .boolean) (C := RX3) (T := TX3) (N := 3) hx hb hts hin_X3 tyX3 tyX3_ok nmX3 hown hK hP hD hS 16 rfl rfl 2 (by decide) hf_35 (fun _ h9 => h9) rfl (by decide +kernel) (by decide) (by decide) (Nat.le_of_ble_eq_true rfl) dX3_goOn_65 (fun H locs hP hD hS => ?_)
    obtain ⟨σ50001, eσ50001⟩ : ∃ z : Mem, z = mst (σ) 16 2 0 := ⟨_, rfl⟩
    have hp := hp σ50001 eσ50001
    have hP : va_P D vwCl (W5 k ad (σ50001)) H := by rw [eσ50001]; exact hP
    have hD : va_D A (W5 k ad (σ50001)) := by rw [eσ50001]; exact hD
    refine lv_iconst (v := 0) hx hb dX3_goOn_68 (by decide) ?_
    refine lv_istore_n (lv' := [(3, .int 0), (0, .ref (ad 16))]) hx hb dX3_goOn_69 rfl hl (by decide) rfl (fun ls hl => ?_)
    obtain ⟨n9, hp⟩ := hp
    exact B_70 n9 0 (σ50001) _ _ _  hP hD hS (lv_sub hl [1, 0] rfl) hp
  have B_4 : ∀ (n_4 : Nat) (x1 : Int32) (x2 : Int32) (x3 : Int32) (σ : Mem) (H : Heap) (locs : List Loc) (ls : Array Slot), va_P D vwCl (W5 k ad (σ)) H → va_D A (W5 k ad (σ)) → va_S A s.heap H locs → lv_has ls 5 [(0, .ref (ad 16)), (1, .int x1), (2, .int x2), (3, .int x3)] → lp_4 (q_X3_goOn_4 16 17 post (q_X3_goOn_63 16 17 post)) n_4 x1 x2 x3 σ → W p l e rm_X3_goOn s m args below meth c H locs 0 0 Q (F0 m 4 ls []) := by
    intro n_4
    induction n_4 with
    | zero => intro x1 x2 x3 σ H locs ls hP hD hS hl hp; exact hp.elim
    | succ n_4 ih_4 =>
      have B_57 : ∀ (x1 : Int32) (x2 : Int32) (x3 : Int32) (σ : Mem) (H : Heap) (locs : List Loc) (ls : Array Slot), va_P D vwCl (W5 k ad (σ)) H → va_D A (W5 k ad (σ)) → va_S A s.heap H locs → lv_has ls 5 [(0, .ref (ad 16)), (1, .int x1), (2, .int x2), (3, .int x3)] → (q_X3_goOn_57 16 17 post (q_X3_goOn_63 16 17 post) (lp_4 (q_X3_goOn_4 16 17 post (q_X3_goOn_63 16 17 post)) n_4)) x1 x2 x3 σ → W p l e rm_X3_goOn s m args below meth c H locs 0 0 Q (F0 m 57 ls []) := by
        intro x1 x2 x3 σ H locs ls hP hD hS hl hp
        unfold q_X3_goOn_57 at hp
        obtain ⟨v40001, ev40001⟩ : ∃ z : Int32, z = x3 + 1 := ⟨_, rfl⟩
        have hp := hp v40001 ev40001
        refine lv_iinc (v := v40001) (lv' := [(3, .int v40001), (0, .ref (ad 16)), (1, .int x1), (2, .int x2)]) hx hb dX3_goOn_57 hl (k := 3) rfl (by rw [ev40001]; rfl) (by decide) rfl (fun ls hl => ?_)
        refine lv_goto (tgt := 4) hx hb dX3_goOn_60 (by decide) ?_
        exact ih_4 x1 x2 v40001 (σ) _ _ _  hP hD hS (lv_sub hl [1, 2, 3, 0] rfl) hp
      have B_19 : ∀ (n_19 : Nat) (x1 : Int32) (x2 : Int32) (x3 : Int32) (x4 : Int32) (σ : Mem) (H : Heap) (locs : List Loc) (ls : Array Slot), va_P D vwCl (W5 k ad (σ)) H → va_D A (W5 k ad (σ)) → va_S A s.heap H locs → lv_has ls 5 [(0, .ref (ad 16)), (1, .int x1), (2, .int x2), (3, .int x3), (4, .int x4)] → lp_5 (q_X3_goOn_19 16 17 post (q_X3_goOn_57 16 17 post (q_X3_goOn_63 16 17 post) (lp_4 (q_X3_goOn_4 16 17 post (q_X3_goOn_63 16 17 post)) n_4))) n_19 x1 x2 x3 x4 σ → W p l e rm_X3_goOn s m args below meth c H locs 0 0 Q (F0 m 19 ls []) := by
        intro n_19
        induction n_19 with
        | zero => intro x1 x2 x3 x4 σ H locs ls hP hD hS hl hp; exact hp.elim
        | succ n_19 ih_19 =>
          have B_51 : ∀ (x1 : Int32) (x2 : Int32) (x3 : Int32) (x4 : Int32) (σ : Mem) (H : Heap) (locs : List Loc) (ls : Array Slot), va_P D vwCl (W5 k ad (σ)) H → va_D A (W5 k ad (σ)) → va_S A s.heap H locs → lv_has ls 5 [(0, .ref (ad 16)), (1, .int x1), (2, .int x2), (3, .int x3), (4, .int x4)] → (q_X3_goOn_51 16 17 post (q_X3_goOn_57 16 17 post (q_X3_goOn_63 16 17 post) (lp_4 (q_X3_goOn_4 16 17 post (q_X3_goOn_63 16 17 post)) n_4)) (lp_5 (q_X3_goOn_19 16 17 post (q_X3_goOn_57 16 17 post (q_X3_goOn_63 16 17 post) (lp_4 (q_X3_goOn_4 16 17 post (q_X3_goOn_63 16 17 post)) n_4))) n_19)) x1 x2 x3 x4 σ → W p l e rm_X3_goOn s m args below meth c H locs 0 0 Q (F0 m 51 ls []) := by
            intro x1 x2 x3 x4 σ H locs ls hP hD hS hl hp
            unfold q_X3_goOn_51 at hp
            obtain ⟨v30001, ev30001⟩ : ∃ z : Int32, z = x4 + 1 := ⟨_, rfl⟩
            have hp := hp v30001 ev30001
            refine lv_iinc (v := v30001) (lv' := [(4, .int v30001), (0, .ref (ad 16)), (1, .int x1), (2, .int x2), (3, .int x3)]) hx hb dX3_goOn_51 hl (k := 4) rfl (by rw [ev30001]; rfl) (by decide) rfl (fun ls hl => ?_)
            refine lv_goto (tgt := 19) hx hb dX3_goOn_54 (by decide) ?_
            exact ih_19 x1 x2 x3 v30001 (σ) _ _ _  hP hD hS (lv_sub hl [1, 2, 3, 4, 0] rfl) hp
          intro x1 x2 x3 x4 σ H locs ls hP hD hS hl hp
          have hp : q_X3_goOn_19 16 17 post (q_X3_goOn_57 16 17 post (q_X3_goOn_63 16 17 post) (lp_4 (q_X3_goOn_4 16 17 post (q_X3_goOn_63 16 17 post)) n_4)) (lp_5 (q_X3_goOn_19 16 17 post (q_X3_goOn_57 16 17 post (q_X3_goOn_63 16 17 post) (lp_4 (q_X3_goOn_4 16 17 post (q_X3_goOn_63 16 17 post)) n_4))) n_19) x1 x2 x3 x4 σ := hp
          unfold q_X3_goOn_19 at hp
          refine lv_iload hx hb dX3_goOn_19 (lv_at hl 4 rfl) ?_
          refine lv_aload_n hx hb dX3_goOn_21 rfl (lv_at hl 0 rfl) ?_
          refine va_get (D := D) (ci := 7) (C := RX3) (T := TX3) (N := 3) hx hb hts hin_X3 hown hK hP 16 rfl rfl 0 (by decide) hf_15 (fun _ h9 => h9) rfl dX3_goOn_22 ?_
          refine va_get (D := D) (ci := 6) (C := RX2) (T := TX2) (N := 11) hx hb hts hin_X2 hown hK hP 1 rfl rfl 10 (by decide) hf_39 (fun _ h9 => h9) rfl dX3_goOn_25 ?_
          refine lv_icmp_ge (tgt := 57) hx hb dX3_goOn_28 (by decide) (fun c20001 => ?_) (fun c20001 => ?_)
          · have hp := hp.1 c20001
            exact B_57 x1 x2 x3 (σ) _ _ _  hP hD hS (lv_sub hl [0, 1, 2, 3] rfl) hp
          · have hp := hp.2 c20001
            refine lv_iload_n hx hb dX3_goOn_31 rfl (lv_at hl 1 rfl) ?_
            refine lv_iload hx hb dX3_goOn_32 (lv_at hl 4 rfl) ?_
            refine fw_ciSN (As := [.int x1, .int x4]) (rest := []) hC (c_X5_contains l D k hp) ⟨va_cnB 2 hts (gA_0 A_14) rfl rfl rfl (GG.nm hG (q := (RX3, 45, yX5_contains, "Meetjoin")) 2 rfl) (hts _ (List.mem_cons_of_mem _ A_25)) (by decide +kernel) ⟨Nat.le_of_ble_eq_true rfl, Nat.le_of_ble_eq_true rfl⟩, (hts _ (List.mem_cons_of_mem _ A_24)), trivial⟩ rfl hl.1 rfl (Nat.le_of_ble_eq_true rfl) dX3_goOn_34 ⟨Nat.le_of_ble_eq_true rfl, Nat.le_of_ble_eq_true rfl⟩ P_nil D_nil hS (Jn.pure (w0 := fun _ : Mem => []) hP hD) (fun r20002 σ20003 H locs hP hD hS hp => ?_)
            have hP : va_P D vwCl (W5 k ad (σ)) H := hP
            have hD : va_D A (W5 k ad (σ)) := hD
            refine lv_if_eq (tgt := 51) hx hb dX3_goOn_37 (by decide) (fun c20004 => ?_) (fun c20004 => ?_)
            · have hp := hp.1 c20004
              exact B_51 x1 x2 x3 x4 (σ) _ _ _  hP hD hS (lv_sub hl [0, 1, 2, 3, 4] rfl) hp
            · have hp := hp.2 c20004
              refine lv_aload_n hx hb dX3_goOn_40 rfl (lv_at hl 0 rfl) ?_
              refine lv_iload hx hb dX3_goOn_41 (lv_at hl 4 rfl) ?_
              refine fw_ciV (As := [.int x4]) (rest := []) hC (c_X3_takesAway_16 l D k ad hp) (cwV 1 hts (gA_V A_112 A_113 A_114 A_115 A_101) rfl rfl rfl (by decide +kernel) ⟨Nat.le_of_ble_eq_true rfl, Nat.le_of_ble_eq_true rfl⟩) (va_recv hK hP (ci := 7) (q0 := 16) rfl rfl) rfl hl.1 rfl (Nat.le_of_ble_eq_true rfl) dX3_goOn_43 ⟨Nat.le_of_ble_eq_true rfl, Nat.le_of_ble_eq_true rfl⟩ hP hD hS Jn.same (fun r20005 σ20006 H locs hP hD hS hp => ?_)
              have hP : va_P D vwCl (W5 k ad (σ20006)) H := hP
              have hD : va_D A (W5 k ad (σ20006)) := hD
              refine lv_if_eq (tgt := 51) hx hb dX3_goOn_46 (by decide) (fun c20007 => ?_) (fun c20007 => ?_)
              · have hp := hp.1 c20007
                exact B_51 x1 x2 x3 x4 (σ20006) _ _ _  hP hD hS (lv_sub hl [0, 1, 2, 3, 4] rfl) hp
              · have hp := hp.2 c20007
                refine lv_iconst (v := 1) hx hb dX3_goOn_49 (by decide) ?_
                refine lv_istore_n (lv' := [(2, .int 1), (0, .ref (ad 16)), (1, .int x1), (3, .int x3), (4, .int x4)]) hx hb dX3_goOn_50 rfl hl (by decide) rfl (fun ls hl => ?_)
                exact B_51 x1 1 x3 x4 (σ20006) _ _ _  hP hD hS (lv_sub hl [1, 2, 0, 3, 4] rfl) hp
      intro x1 x2 x3 σ H locs ls hP hD hS hl hp
      have hp : q_X3_goOn_4 16 17 post (q_X3_goOn_63 16 17 post) (lp_4 (q_X3_goOn_4 16 17 post (q_X3_goOn_63 16 17 post)) n_4) x1 x2 x3 σ := hp
      unfold q_X3_goOn_4 at hp
      refine lv_iload_n hx hb dX3_goOn_4 rfl (lv_at hl 2 rfl) ?_
      refine lv_if_eq (tgt := 63) hx hb dX3_goOn_5 (by decide) (fun c10001 => ?_) (fun c10001 => ?_)
      · have hp := hp.1 c10001
        exact B_63  (σ) _ _ _  hP hD hS (lv_sub hl [0] rfl) hp
      · have hp := hp.2 c10001
        refine lv_iload_n hx hb dX3_goOn_8 rfl (lv_at hl 3 rfl) ?_
        refine lv_bipush (v := 40) hx hb dX3_goOn_9 (by decide) ?_
        refine lv_icmp_gt (tgt := 63) hx hb dX3_goOn_11 (by decide) (fun c10002 => ?_) (fun c10002 => ?_)
        · have hp := hp.1 c10002
          exact B_63  (σ) _ _ _  hP hD hS (lv_sub hl [0] rfl) hp
        · have hp := hp.2 c10002
          refine lv_iconst (v := 0) hx hb dX3_goOn_14 (by decide) ?_
          refine lv_istore_n (lv' := [(2, .int 0), (0, .ref (ad 16)), (1, .int x1), (3, .int x3)]) hx hb dX3_goOn_15 rfl hl (by decide) rfl (fun ls hl => ?_)
          refine lv_iconst (v := 0) hx hb dX3_goOn_16 (by decide) ?_
          refine lv_istore (lv' := [(4, .int 0), (2, .int 0), (0, .ref (ad 16)), (1, .int x1), (3, .int x3)]) hx hb dX3_goOn_17 hl (by decide) rfl (fun ls hl => ?_)
          obtain ⟨n9, hp⟩ := hp
          exact B_19 n9 x1 0 x3 0 (σ) _ _ _  hP hD hS (lv_sub hl [2, 3, 1, 4, 0] rfl) hp
  refine lv_iconst (v := 1) hx hb dX3_goOn_0 (by decide) ?_
  refine lv_istore_n (lv' := [(2, .int 1), (0, .ref (ad 16)), (1, .int p1)]) hx hb dX3_goOn_1 rfl hl (by decide) rfl (fun ls hl => ?_)
  refine lv_iconst (v := 0) hx hb dX3_goOn_2 (by decide) ?_
  refine lv_istore_n (lv' := [(3, .int 0), (2, .int 1), (0, .ref (ad 16)), (1, .int p1)]) hx hb dX3_goOn_3 rfl hl (by decide) rfl (fun ls hl => ?_)
  obtain ⟨n9, hp⟩ := hp
  exact B_4 n9 p1 1 0 (σ) _ _ _  hP hD hS (lv_sub hl [2, 3, 1, 0] rfl) hp
def q_X3_begin (pm : Nat) (pa : Nat) (post : Mem → Prop) (p1 : Int32) (σ : Mem) : Prop := (∀ σ1 : Mem, σ1 = mup (σ) pa (fl_row 5 255 ((σ) pa)) → (q_X3_goOn pm pa (fun (σ3 : Mem) => post (σ3)) p1 (σ1)))
abbrev rm_X3_begin : Room := { frames := 3, cells := 0, slots := 0, locals := 73 }
abbrev wq_X3_begin : List Cond := Cond.code yX3_begin cX3_begin 2 none :: wALL
set_option maxHeartbeats 4000000 in
set_option maxRecDepth 100000 in
theorem c_X3_begin_12 (l : Launch) (D : va_G) (k ad : Nat → Nat) {sz : Nat} {σ : Mem} {p1 : Int32} {post : Mem → Prop} (hp : q_X3_begin 12 13 post p1 σ) : Met l yX3_begin wq_X3_begin rm_X3_begin (va_Pc [.ref (ad 12), .int p1] (Pw D k (W5 k ad (σ)) sz)) (va_Qv post (fun u => Bw D (W5 k ad (σ)) sz (W5 k ad u)) (va_A (W5 k ad (σ)) sz)) 0 0 (va_A (W5 k ad (σ)) sz) := by
  refine fw_v (wf := fun u : Mem => W5 k ad u) (by decide) rfl (Nat.le_of_ble_eq_true rfl) ?_
  intro p e s m args below meth c A Q ls hC hP hD hl hmn hret
  obtain ⟨⟨hx, hb, hml, hown, hts⟩, hG, hA⟩ := id hC
  have hK := hG.1
  have hS : va_S A s.heap s.heap [] := va_S.rf
  have hin_X3 : ∀ w ∈ u_ws RX3 TX3 3, w ∈ wq_X3_begin := fun w h => List.mem_cons_of_mem _ (iU_X3 w h)
  have hf_9 := hts _ (List.mem_cons_of_mem _ A_99)
  have hl : lv_has ls 2 [(0, .ref (ad 12)), (1, .int p1)] := hl
  have hown : s.vm.findClass RX3 = some m.cls := hown
  unfold q_X3_begin at hp
  refine lv_aload_n hx hb dX3_begin_0 rfl (lv_at hl 0 rfl) ?_
  refine va_get (D := D) (ci := 7) (C := RX3) (T := TX3) (N := 3) hx hb hts hin_X3 hown hK hP 12 rfl rfl 1 (by decide) hf_9 (fun _ h9 => h9) rfl dX3_begin_1 ?_
  refine lv_sipush (v := 255) hx hb dX3_begin_4 (by decide) ?_
  refine fw_cvS (As := [.ref (ad 13), .int 255]) (rest := []) hC (c_J7_fill l D k (ad 13) 5 ((σ) 13) 255 (by decide)) (va_cwS 2 hts (gA_S A_116 A_12 A_13 A_0) rfl rfl rfl (by decide +kernel) ⟨Nat.le_of_ble_eq_true rfl, Nat.le_of_ble_eq_true rfl⟩) rfl hl.1 rfl (Nat.le_of_ble_eq_true rfl) dX3_begin_7 ⟨Nat.le_of_ble_eq_true rfl, Nat.le_of_ble_eq_true rfl⟩ (P_one (p := 13) hP rfl) (D_one (p := 13) hD rfl) hS (Jn.cell (p := 13) hP hD rfl) (fun u9 H locs hP hD hS hu9 => ?_)
  obtain rfl := hu9
  obtain ⟨σ1, eσ1⟩ : ∃ z : Mem, z = mup (σ) 13 (fl_row 5 255 ((σ) 13)) := ⟨_, rfl⟩
  have hp := hp σ1 eσ1
  have hP : va_P D vwCl (W5 k ad (σ1)) H := by rw [eσ1]; exact hP
  have hD : va_D A (W5 k ad (σ1)) := by rw [eσ1]; exact hD
  refine lv_aload_n hx hb dX3_begin_10 rfl (lv_at hl 0 rfl) ?_
  refine lv_iload_n hx hb dX3_begin_11 rfl (lv_at hl 1 rfl) ?_
  refine fw_cvV (As := [.int p1]) (rest := []) hC (c_X3_goOn_12 l D k ad hp) (cwV 1 hts (gA_V A_118 A_119 A_120 A_115 A_117) rfl rfl rfl (by decide +kernel) ⟨Nat.le_of_ble_eq_true rfl, Nat.le_of_ble_eq_true rfl⟩) (va_recv hK hP (ci := 7) (q0 := 12) rfl rfl) rfl hl.1 rfl (Nat.le_of_ble_eq_true rfl) dX3_begin_12 ⟨Nat.le_of_ble_eq_true rfl, Nat.le_of_ble_eq_true rfl⟩ hP hD hS Jn.same (fun σ3 H locs hP hD hS hp => ?_)
  have hP : va_P D vwCl (W5 k ad (σ3)) H := hP
  have hD : va_D A (W5 k ad (σ3)) := hD
  exact hret (σ3) _ _ _ _ _ _ dX3_begin_15 hP hD hS (Nat.le_of_ble_eq_true rfl) (Nat.le_of_ble_eq_true rfl) hp
set_option maxHeartbeats 4000000 in
set_option maxRecDepth 100000 in
theorem c_X3_begin_14 (l : Launch) (D : va_G) (k ad : Nat → Nat) {sz : Nat} {σ : Mem} {p1 : Int32} {post : Mem → Prop} (hp : q_X3_begin 14 15 post p1 σ) : Met l yX3_begin wq_X3_begin rm_X3_begin (va_Pc [.ref (ad 14), .int p1] (Pw D k (W5 k ad (σ)) sz)) (va_Qv post (fun u => Bw D (W5 k ad (σ)) sz (W5 k ad u)) (va_A (W5 k ad (σ)) sz)) 0 0 (va_A (W5 k ad (σ)) sz) := by
  refine fw_v (wf := fun u : Mem => W5 k ad u) (by decide) rfl (Nat.le_of_ble_eq_true rfl) ?_
  intro p e s m args below meth c A Q ls hC hP hD hl hmn hret
  obtain ⟨⟨hx, hb, hml, hown, hts⟩, hG, hA⟩ := id hC
  have hK := hG.1
  have hS : va_S A s.heap s.heap [] := va_S.rf
  have hin_X3 : ∀ w ∈ u_ws RX3 TX3 3, w ∈ wq_X3_begin := fun w h => List.mem_cons_of_mem _ (iU_X3 w h)
  have hf_9 := hts _ (List.mem_cons_of_mem _ A_99)
  have hl : lv_has ls 2 [(0, .ref (ad 14)), (1, .int p1)] := hl
  have hown : s.vm.findClass RX3 = some m.cls := hown
  unfold q_X3_begin at hp
  refine lv_aload_n hx hb dX3_begin_0 rfl (lv_at hl 0 rfl) ?_
  refine va_get (D := D) (ci := 7) (C := RX3) (T := TX3) (N := 3) hx hb hts hin_X3 hown hK hP 14 rfl rfl 1 (by decide) hf_9 (fun _ h9 => h9) rfl dX3_begin_1 ?_
  refine lv_sipush (v := 255) hx hb dX3_begin_4 (by decide) ?_
  refine fw_cvS (As := [.ref (ad 15), .int 255]) (rest := []) hC (c_J7_fill l D k (ad 15) 5 ((σ) 15) 255 (by decide)) (va_cwS 2 hts (gA_S A_116 A_12 A_13 A_0) rfl rfl rfl (by decide +kernel) ⟨Nat.le_of_ble_eq_true rfl, Nat.le_of_ble_eq_true rfl⟩) rfl hl.1 rfl (Nat.le_of_ble_eq_true rfl) dX3_begin_7 ⟨Nat.le_of_ble_eq_true rfl, Nat.le_of_ble_eq_true rfl⟩ (P_one (p := 15) hP rfl) (D_one (p := 15) hD rfl) hS (Jn.cell (p := 15) hP hD rfl) (fun u9 H locs hP hD hS hu9 => ?_)
  obtain rfl := hu9
  obtain ⟨σ1, eσ1⟩ : ∃ z : Mem, z = mup (σ) 15 (fl_row 5 255 ((σ) 15)) := ⟨_, rfl⟩
  have hp := hp σ1 eσ1
  have hP : va_P D vwCl (W5 k ad (σ1)) H := by rw [eσ1]; exact hP
  have hD : va_D A (W5 k ad (σ1)) := by rw [eσ1]; exact hD
  refine lv_aload_n hx hb dX3_begin_10 rfl (lv_at hl 0 rfl) ?_
  refine lv_iload_n hx hb dX3_begin_11 rfl (lv_at hl 1 rfl) ?_
  refine fw_cvV (As := [.int p1]) (rest := []) hC (c_X3_goOn_14 l D k ad hp) (cwV 1 hts (gA_V A_118 A_119 A_120 A_115 A_117) rfl rfl rfl (by decide +kernel) ⟨Nat.le_of_ble_eq_true rfl, Nat.le_of_ble_eq_true rfl⟩) (va_recv hK hP (ci := 7) (q0 := 14) rfl rfl) rfl hl.1 rfl (Nat.le_of_ble_eq_true rfl) dX3_begin_12 ⟨Nat.le_of_ble_eq_true rfl, Nat.le_of_ble_eq_true rfl⟩ hP hD hS Jn.same (fun σ3 H locs hP hD hS hp => ?_)
  have hP : va_P D vwCl (W5 k ad (σ3)) H := hP
  have hD : va_D A (W5 k ad (σ3)) := hD
  exact hret (σ3) _ _ _ _ _ _ dX3_begin_15 hP hD hS (Nat.le_of_ble_eq_true rfl) (Nat.le_of_ble_eq_true rfl) hp
set_option maxHeartbeats 4000000 in
set_option maxRecDepth 100000 in
theorem c_X3_begin_16 (l : Launch) (D : va_G) (k ad : Nat → Nat) {sz : Nat} {σ : Mem} {p1 : Int32} {post : Mem → Prop} (hp : q_X3_begin 16 17 post p1 σ) : Met l yX3_begin wq_X3_begin rm_X3_begin (va_Pc [.ref (ad 16), .int p1] (Pw D k (W5 k ad (σ)) sz)) (va_Qv post (fun u => Bw D (W5 k ad (σ)) sz (W5 k ad u)) (va_A (W5 k ad (σ)) sz)) 0 0 (va_A (W5 k ad (σ)) sz) := by
  refine fw_v (wf := fun u : Mem => W5 k ad u) (by decide) rfl (Nat.le_of_ble_eq_true rfl) ?_
  intro p e s m args below meth c A Q ls hC hP hD hl hmn hret
  obtain ⟨⟨hx, hb, hml, hown, hts⟩, hG, hA⟩ := id hC
  have hK := hG.1
  have hS : va_S A s.heap s.heap [] := va_S.rf
  have hin_X3 : ∀ w ∈ u_ws RX3 TX3 3, w ∈ wq_X3_begin := fun w h => List.mem_cons_of_mem _ (iU_X3 w h)
  have hf_9 := hts _ (List.mem_cons_of_mem _ A_99)
  have hl : lv_has ls 2 [(0, .ref (ad 16)), (1, .int p1)] := hl
  have hown : s.vm.findClass RX3 = some m.cls := hown
  unfold q_X3_begin at hp
  refine lv_aload_n hx hb dX3_begin_0 rfl (lv_at hl 0 rfl) ?_
  refine va_get (D := D) (ci := 7) (C := RX3) (T := TX3) (N := 3) hx hb hts hin_X3 hown hK hP 16 rfl rfl 1 (by decide) hf_9 (fun _ h9 => h9) rfl dX3_begin_1 ?_
  refine lv_sipush (v := 255) hx hb dX3_begin_4 (by decide) ?_
  refine fw_cvS (As := [.ref (ad 17), .int 255]) (rest := []) hC (c_J7_fill l D k (ad 17) 5 ((σ) 17) 255 (by decide)) (va_cwS 2 hts (gA_S A_116 A_12 A_13 A_0) rfl rfl rfl (by decide +kernel) ⟨Nat.le_of_ble_eq_true rfl, Nat.le_of_ble_eq_true rfl⟩) rfl hl.1 rfl (Nat.le_of_ble_eq_true rfl) dX3_begin_7 ⟨Nat.le_of_ble_eq_true rfl, Nat.le_of_ble_eq_true rfl⟩ (P_one (p := 17) hP rfl) (D_one (p := 17) hD rfl) hS (Jn.cell (p := 17) hP hD rfl) (fun u9 H locs hP hD hS hu9 => ?_)
  obtain rfl := hu9
  obtain ⟨σ1, eσ1⟩ : ∃ z : Mem, z = mup (σ) 17 (fl_row 5 255 ((σ) 17)) := ⟨_, rfl⟩
  have hp := hp σ1 eσ1
  have hP : va_P D vwCl (W5 k ad (σ1)) H := by rw [eσ1]; exact hP
  have hD : va_D A (W5 k ad (σ1)) := by rw [eσ1]; exact hD
  refine lv_aload_n hx hb dX3_begin_10 rfl (lv_at hl 0 rfl) ?_
  refine lv_iload_n hx hb dX3_begin_11 rfl (lv_at hl 1 rfl) ?_
  refine fw_cvV (As := [.int p1]) (rest := []) hC (c_X3_goOn_16 l D k ad hp) (cwV 1 hts (gA_V A_118 A_119 A_120 A_115 A_117) rfl rfl rfl (by decide +kernel) ⟨Nat.le_of_ble_eq_true rfl, Nat.le_of_ble_eq_true rfl⟩) (va_recv hK hP (ci := 7) (q0 := 16) rfl rfl) rfl hl.1 rfl (Nat.le_of_ble_eq_true rfl) dX3_begin_12 ⟨Nat.le_of_ble_eq_true rfl, Nat.le_of_ble_eq_true rfl⟩ hP hD hS Jn.same (fun σ3 H locs hP hD hS hp => ?_)
  have hP : va_P D vwCl (W5 k ad (σ3)) H := hP
  have hD : va_D A (W5 k ad (σ3)) := hD
  exact hret (σ3) _ _ _ _ _ _ dX3_begin_15 hP hD hS (Nat.le_of_ble_eq_true rfl) (Nat.le_of_ble_eq_true rfl) hp
def q_X3_copy (pm : Nat) (pa : Nat) (po : Nat) (pb : Nat) (post : Mem → Prop) (σ : Mem) : Prop := (∀ σ1 : Mem, σ1 = mup (σ) pa (va_cpy ((σ) pb) ((σ) pa) ((0 : Int32).toNatClampNeg) ((0 : Int32).toNatClampNeg) ((5 : Int32).toNatClampNeg)) → (bz ((σ1) po 2) ∧ (∀ σ3 : Mem, σ3 = mst (σ1) pm 2 ((σ1) po 2) → post (σ3))))
abbrev rm_X3_copy : Room := { frames := 1, cells := 0, slots := 0, locals := 80 }
abbrev wq_X3_copy : List Cond := Cond.code yX3_copy cX3_copy 2 none :: wALL
set_option maxHeartbeats 4000000 in
set_option maxRecDepth 100000 in
theorem c_X3_copy_16_12 (l : Launch) (D : va_G) (k ad : Nat → Nat) {sz : Nat} {σ : Mem} {post : Mem → Prop} (hp : q_X3_copy 16 17 12 13 post σ) : Met l yX3_copy wq_X3_copy rm_X3_copy (va_Pc [.ref (ad 16), .ref (ad 12)] (Pw D k (W5 k ad (σ)) sz)) (va_Qv post (fun u => Bw D (W5 k ad (σ)) sz (W5 k ad u)) (va_A (W5 k ad (σ)) sz)) 0 0 (va_A (W5 k ad (σ)) sz) := by
  refine fw_v (wf := fun u : Mem => W5 k ad u) (by decide) rfl (Nat.le_of_ble_eq_true rfl) ?_
  intro p e s m args below meth c A Q ls hC hP hD hl hmn hret
  obtain ⟨⟨hx, hb, hml, hown, hts⟩, hG, hA⟩ := id hC
  have hK := hG.1
  have hS : va_S A s.heap s.heap [] := va_S.rf
  have hin_X3 : ∀ w ∈ u_ws RX3 TX3 3, w ∈ wq_X3_copy := fun w h => List.mem_cons_of_mem _ (iU_X3 w h)
  have hf_9 := hts _ (List.mem_cons_of_mem _ A_99)
  have hf_35 := hts _ (List.mem_cons_of_mem _ A_110)
  have hl : lv_has ls 2 [(0, .ref (ad 16)), (1, .ref (ad 12))] := hl
  have hown : s.vm.findClass RX3 = some m.cls := hown
  unfold q_X3_copy at hp
  refine lv_aload_n hx hb dX3_copy_0 rfl (lv_at hl 1 rfl) ?_
  refine va_get (D := D) (ci := 7) (C := RX3) (T := TX3) (N := 3) hx hb hts hin_X3 hown hK hP 12 rfl rfl 1 (by decide) hf_9 (fun _ h9 => h9) rfl dX3_copy_1 ?_
  refine lv_iconst (v := 0) hx hb dX3_copy_4 (by decide) ?_
  refine lv_aload_n hx hb dX3_copy_5 rfl (lv_at hl 0 rfl) ?_
  refine va_get (D := D) (ci := 7) (C := RX3) (T := TX3) (N := 3) hx hb hts hin_X3 hown hK hP 16 rfl rfl 1 (by decide) hf_9 (fun _ h9 => h9) rfl dX3_copy_6 ?_
  refine lv_iconst (v := 0) hx hb dX3_copy_9 (by decide) ?_
  refine lv_iconst (v := 5) hx hb dX3_copy_10 (by decide) ?_
  refine va_copyi hx hb (by rw [hml]; exact hl.1.symm) hown (hts _ (List.mem_cons_of_mem _ A_123)) (hts _ (List.mem_cons_of_mem _ A_35)) (hts _ (List.mem_cons_of_mem _ A_36)) (hts _ (List.mem_cons_of_mem _ A_37)) hK hP hD hS 13 17 0 0 rfl rfl rfl rfl rfl (by decide) (by decide) (by decide) (by decide) (by decide) (fun _ _ => rfl) (Nat.le_of_ble_eq_true rfl) (by decide +kernel) dX3_copy_11 (fun H locs hP hD hS => ?_)
  obtain ⟨σ1, eσ1⟩ : ∃ z : Mem, z = mup (σ) 17 (va_cpy ((σ) 13) ((σ) 17) ((0 : Int32).toNatClampNeg) ((0 : Int32).toNatClampNeg) ((5 : Int32).toNatClampNeg)) := ⟨_, rfl⟩
  have hp := hp σ1 eσ1
  have hP : va_P D vwCl (W5 k ad (σ1)) H := by rw [eσ1]; exact hP
  have hD : va_D A (W5 k ad (σ1)) := by rw [eσ1]; exact hD
  refine lv_aload_n hx hb dX3_copy_14 rfl (lv_at hl 0 rfl) ?_
  refine lv_aload_n hx hb dX3_copy_15 rfl (lv_at hl 1 rfl) ?_
  refine va_get (D := D) (ci := 7) (C := RX3) (T := TX3) (N := 3) hx hb hts hin_X3 hown hK hP 12 rfl rfl 2 (by decide) hf_35 (fun _ h9 => h9) rfl dX3_copy_16 ?_
  obtain ⟨z2, hp⟩ := hp
  refine va_put (D := D) (ci := 7) (v := .int ((σ1) 12 2)) (ty := .boolean) (C := RX3) (T := TX3) (N := 3) hx hb hts hin_X3 tyX3 tyX3_ok nmX3 hown hK hP hD hS 16 rfl rfl 2 (by decide) hf_35 (fun _ h9 => h9) rfl (by decide +kernel) z2.1 z2.2 (Nat.le_of_ble_eq_true rfl) dX3_copy_19 (fun H locs hP hD hS => ?_)
  obtain ⟨σ3, eσ3⟩ : ∃ z : Mem, z = mst (σ1) 16 2 ((σ1) 12 2) := ⟨_, rfl⟩
  have hp := hp σ3 eσ3
  have hP : va_P D vwCl (W5 k ad (σ3)) H := by rw [eσ3]; exact hP
  have hD : va_D A (W5 k ad (σ3)) := by rw [eσ3]; exact hD
  exact hret (σ3) _ _ _ _ _ _ dX3_copy_22 hP hD hS (Nat.le_of_ble_eq_true rfl) (Nat.le_of_ble_eq_true rfl) hp
set_option maxHeartbeats 4000000 in
set_option maxRecDepth 100000 in
theorem c_X3_copy_14_16 (l : Launch) (D : va_G) (k ad : Nat → Nat) {sz : Nat} {σ : Mem} {post : Mem → Prop} (hp : q_X3_copy 14 15 16 17 post σ) : Met l yX3_copy wq_X3_copy rm_X3_copy (va_Pc [.ref (ad 14), .ref (ad 16)] (Pw D k (W5 k ad (σ)) sz)) (va_Qv post (fun u => Bw D (W5 k ad (σ)) sz (W5 k ad u)) (va_A (W5 k ad (σ)) sz)) 0 0 (va_A (W5 k ad (σ)) sz) := by
  refine fw_v (wf := fun u : Mem => W5 k ad u) (by decide) rfl (Nat.le_of_ble_eq_true rfl) ?_
  intro p e s m args below meth c A Q ls hC hP hD hl hmn hret
  obtain ⟨⟨hx, hb, hml, hown, hts⟩, hG, hA⟩ := id hC
  have hK := hG.1
  have hS : va_S A s.heap s.heap [] := va_S.rf
  have hin_X3 : ∀ w ∈ u_ws RX3 TX3 3, w ∈ wq_X3_copy := fun w h => List.mem_cons_of_mem _ (iU_X3 w h)
  have hf_9 := hts _ (List.mem_cons_of_mem _ A_99)
  have hf_35 := hts _ (List.mem_cons_of_mem _ A_110)
  have hl : lv_has ls 2 [(0, .ref (ad 14)), (1, .ref (ad 16))] := hl
  have hown : s.vm.findClass RX3 = some m.cls := hown
  unfold q_X3_copy at hp
  refine lv_aload_n hx hb dX3_copy_0 rfl (lv_at hl 1 rfl) ?_
  refine va_get (D := D) (ci := 7) (C := RX3) (T := TX3) (N := 3) hx hb hts hin_X3 hown hK hP 16 rfl rfl 1 (by decide) hf_9 (fun _ h9 => h9) rfl dX3_copy_1 ?_
  refine lv_iconst (v := 0) hx hb dX3_copy_4 (by decide) ?_
  refine lv_aload_n hx hb dX3_copy_5 rfl (lv_at hl 0 rfl) ?_
  refine va_get (D := D) (ci := 7) (C := RX3) (T := TX3) (N := 3) hx hb hts hin_X3 hown hK hP 14 rfl rfl 1 (by decide) hf_9 (fun _ h9 => h9) rfl dX3_copy_6 ?_
  refine lv_iconst (v := 0) hx hb dX3_copy_9 (by decide) ?_
  refine lv_iconst (v := 5) hx hb dX3_copy_10 (by decide) ?_
  refine va_copyi hx hb (by rw [hml]; exact hl.1.symm) hown (hts _ (List.mem_cons_of_mem _ A_123)) (hts _ (List.mem_cons_of_mem _ A_35)) (hts _ (List.mem_cons_of_mem _ A_36)) (hts _ (List.mem_cons_of_mem _ A_37)) hK hP hD hS 17 15 0 0 rfl rfl rfl rfl rfl (by decide) (by decide) (by decide) (by decide) (by decide) (fun _ _ => rfl) (Nat.le_of_ble_eq_true rfl) (by decide +kernel) dX3_copy_11 (fun H locs hP hD hS => ?_)
  obtain ⟨σ1, eσ1⟩ : ∃ z : Mem, z = mup (σ) 15 (va_cpy ((σ) 17) ((σ) 15) ((0 : Int32).toNatClampNeg) ((0 : Int32).toNatClampNeg) ((5 : Int32).toNatClampNeg)) := ⟨_, rfl⟩
  have hp := hp σ1 eσ1
  have hP : va_P D vwCl (W5 k ad (σ1)) H := by rw [eσ1]; exact hP
  have hD : va_D A (W5 k ad (σ1)) := by rw [eσ1]; exact hD
  refine lv_aload_n hx hb dX3_copy_14 rfl (lv_at hl 0 rfl) ?_
  refine lv_aload_n hx hb dX3_copy_15 rfl (lv_at hl 1 rfl) ?_
  refine va_get (D := D) (ci := 7) (C := RX3) (T := TX3) (N := 3) hx hb hts hin_X3 hown hK hP 16 rfl rfl 2 (by decide) hf_35 (fun _ h9 => h9) rfl dX3_copy_16 ?_
  obtain ⟨z2, hp⟩ := hp
  refine va_put (D := D) (ci := 7) (v := .int ((σ1) 16 2)) (ty := .boolean) (C := RX3) (T := TX3) (N := 3) hx hb hts hin_X3 tyX3 tyX3_ok nmX3 hown hK hP hD hS 14 rfl rfl 2 (by decide) hf_35 (fun _ h9 => h9) rfl (by decide +kernel) z2.1 z2.2 (Nat.le_of_ble_eq_true rfl) dX3_copy_19 (fun H locs hP hD hS => ?_)
  obtain ⟨σ3, eσ3⟩ : ∃ z : Mem, z = mst (σ1) 14 2 ((σ1) 16 2) := ⟨_, rfl⟩
  have hp := hp σ3 eσ3
  have hP : va_P D vwCl (W5 k ad (σ3)) H := by rw [eσ3]; exact hP
  have hD : va_D A (W5 k ad (σ3)) := by rw [eσ3]; exact hD
  exact hret (σ3) _ _ _ _ _ _ dX3_copy_22 hP hD hS (Nat.le_of_ble_eq_true rfl) (Nat.le_of_ble_eq_true rfl) hp
set_option maxHeartbeats 4000000 in
set_option maxRecDepth 100000 in
theorem c_X3_copy_16_14 (l : Launch) (D : va_G) (k ad : Nat → Nat) {sz : Nat} {σ : Mem} {post : Mem → Prop} (hp : q_X3_copy 16 17 14 15 post σ) : Met l yX3_copy wq_X3_copy rm_X3_copy (va_Pc [.ref (ad 16), .ref (ad 14)] (Pw D k (W5 k ad (σ)) sz)) (va_Qv post (fun u => Bw D (W5 k ad (σ)) sz (W5 k ad u)) (va_A (W5 k ad (σ)) sz)) 0 0 (va_A (W5 k ad (σ)) sz) := by
  refine fw_v (wf := fun u : Mem => W5 k ad u) (by decide) rfl (Nat.le_of_ble_eq_true rfl) ?_
  intro p e s m args below meth c A Q ls hC hP hD hl hmn hret
  obtain ⟨⟨hx, hb, hml, hown, hts⟩, hG, hA⟩ := id hC
  have hK := hG.1
  have hS : va_S A s.heap s.heap [] := va_S.rf
  have hin_X3 : ∀ w ∈ u_ws RX3 TX3 3, w ∈ wq_X3_copy := fun w h => List.mem_cons_of_mem _ (iU_X3 w h)
  have hf_9 := hts _ (List.mem_cons_of_mem _ A_99)
  have hf_35 := hts _ (List.mem_cons_of_mem _ A_110)
  have hl : lv_has ls 2 [(0, .ref (ad 16)), (1, .ref (ad 14))] := hl
  have hown : s.vm.findClass RX3 = some m.cls := hown
  unfold q_X3_copy at hp
  refine lv_aload_n hx hb dX3_copy_0 rfl (lv_at hl 1 rfl) ?_
  refine va_get (D := D) (ci := 7) (C := RX3) (T := TX3) (N := 3) hx hb hts hin_X3 hown hK hP 14 rfl rfl 1 (by decide) hf_9 (fun _ h9 => h9) rfl dX3_copy_1 ?_
  refine lv_iconst (v := 0) hx hb dX3_copy_4 (by decide) ?_
  refine lv_aload_n hx hb dX3_copy_5 rfl (lv_at hl 0 rfl) ?_
  refine va_get (D := D) (ci := 7) (C := RX3) (T := TX3) (N := 3) hx hb hts hin_X3 hown hK hP 16 rfl rfl 1 (by decide) hf_9 (fun _ h9 => h9) rfl dX3_copy_6 ?_
  refine lv_iconst (v := 0) hx hb dX3_copy_9 (by decide) ?_
  refine lv_iconst (v := 5) hx hb dX3_copy_10 (by decide) ?_
  refine va_copyi hx hb (by rw [hml]; exact hl.1.symm) hown (hts _ (List.mem_cons_of_mem _ A_123)) (hts _ (List.mem_cons_of_mem _ A_35)) (hts _ (List.mem_cons_of_mem _ A_36)) (hts _ (List.mem_cons_of_mem _ A_37)) hK hP hD hS 15 17 0 0 rfl rfl rfl rfl rfl (by decide) (by decide) (by decide) (by decide) (by decide) (fun _ _ => rfl) (Nat.le_of_ble_eq_true rfl) (by decide +kernel) dX3_copy_11 (fun H locs hP hD hS => ?_)
  obtain ⟨σ1, eσ1⟩ : ∃ z : Mem, z = mup (σ) 17 (va_cpy ((σ) 15) ((σ) 17) ((0 : Int32).toNatClampNeg) ((0 : Int32).toNatClampNeg) ((5 : Int32).toNatClampNeg)) := ⟨_, rfl⟩
  have hp := hp σ1 eσ1
  have hP : va_P D vwCl (W5 k ad (σ1)) H := by rw [eσ1]; exact hP
  have hD : va_D A (W5 k ad (σ1)) := by rw [eσ1]; exact hD
  refine lv_aload_n hx hb dX3_copy_14 rfl (lv_at hl 0 rfl) ?_
  refine lv_aload_n hx hb dX3_copy_15 rfl (lv_at hl 1 rfl) ?_
  refine va_get (D := D) (ci := 7) (C := RX3) (T := TX3) (N := 3) hx hb hts hin_X3 hown hK hP 14 rfl rfl 2 (by decide) hf_35 (fun _ h9 => h9) rfl dX3_copy_16 ?_
  obtain ⟨z2, hp⟩ := hp
  refine va_put (D := D) (ci := 7) (v := .int ((σ1) 14 2)) (ty := .boolean) (C := RX3) (T := TX3) (N := 3) hx hb hts hin_X3 tyX3 tyX3_ok nmX3 hown hK hP hD hS 16 rfl rfl 2 (by decide) hf_35 (fun _ h9 => h9) rfl (by decide +kernel) z2.1 z2.2 (Nat.le_of_ble_eq_true rfl) dX3_copy_19 (fun H locs hP hD hS => ?_)
  obtain ⟨σ3, eσ3⟩ : ∃ z : Mem, z = mst (σ1) 16 2 ((σ1) 14 2) := ⟨_, rfl⟩
  have hp := hp σ3 eσ3
  have hP : va_P D vwCl (W5 k ad (σ3)) H := by rw [eσ3]; exact hP
  have hD : va_D A (W5 k ad (σ3)) := by rw [eσ3]; exact hD
  exact hret (σ3) _ _ _ _ _ _ dX3_copy_22 hP hD hS (Nat.le_of_ble_eq_true rfl) (Nat.le_of_ble_eq_true rfl) hp
