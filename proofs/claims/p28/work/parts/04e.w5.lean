def q_X4_takeDefault_132  (post : Mem → Prop)  (σ : Mem) : Prop := post (σ)
def q_X4_takeDefault_126  (post : Mem → Prop) (kE_108 : Mem → Prop) (kE_132 : Mem → Prop) (kc_20 : Int32 → Int32 → Mem → Prop) (x1 : Int32) (x2 : Int32) (σ : Mem) : Prop := (∀ v5001 : Int32, v5001 = x2 + (-1) → kc_20 x1 v5001 (σ))
def q_X4_takeDefault_120  (post : Mem → Prop) (kE_108 : Mem → Prop) (kE_126 : Int32 → Int32 → Mem → Prop) (kc_47 : Int32 → Int32 → Int32 → Int32 → Mem → Prop) (x1 : Int32) (x2 : Int32) (x3 : Int32) (x4 : Int32) (σ : Mem) : Prop := (∀ v4001 : Int32, v4001 = x4 + 1 → kc_47 x1 x2 x3 v4001 (σ))
def q_X4_takeDefault_108  (post : Mem → Prop)  (σ : Mem) : Prop := (q_X3_copy 16 17 14 15 (fun (σ3002 : Mem) => post (σ3002)) (σ))
def q_X4_takeDefault_47  (post : Mem → Prop) (kE_108 : Mem → Prop) (kE_126 : Int32 → Int32 → Mem → Prop) (kc_47 : Int32 → Int32 → Int32 → Int32 → Mem → Prop) (x1 : Int32) (x2 : Int32) (x3 : Int32) (x4 : Int32) (σ : Mem) : Prop := ((8 ≤ x4 → kE_126 x1 x2 (σ)) ∧ (¬ (8 ≤ x4) → (q_X5_contains (fun (r2002 : Int32) (σ2003 : Mem) => ((r2002 = 0 → (q_X4_takeDefault_120 post kE_108 kE_126 kc_47) x1 x2 x3 x4 (σ)) ∧ (¬ (r2002 = 0) → (q_X3_copy 14 15 16 17 (fun (σ2006 : Mem) => (vp_in x1 5 ∧ (∀ σ2008 : Mem, σ2008 = mst (σ2006) 15 x1.toNatClampNeg ((1 : Int32) <<< (x4 &&& 31)) → (q_X3_goOn 14 15 (fun (σ2010 : Mem) => ((((σ2010) 14 2) ≠ 0 → (q_X4_takeDefault_120 post kE_108 kE_126 kc_47) x1 x2 x3 x4 (σ2010)) ∧ (((σ2010) 14 2) = 0 → kE_108 (σ2010)))) ((σ2008) 11 6) (σ2008))))) (σ))))) x3 x4 (σ))))
def q_X4_takeDefault_20  (post : Mem → Prop) (kE_108 : Mem → Prop) (kE_132 : Mem → Prop) (kc_20 : Int32 → Int32 → Mem → Prop) (x1 : Int32) (x2 : Int32) (σ : Mem) : Prop := ((x2 < 0 → kE_132 (σ)) ∧ (¬ (x2 < 0) → (q_X2_defaultsOf (fun (r1002 : Int32) (σ1003 : Mem) => (vp_in x1 5 ∧ (∀ v1005 : Int32, v1005 = (r1002 &&& ((σ1003) 17 x1.toNatClampNeg)) → (∃ n9 : Nat, lp_5 (q_X4_takeDefault_47 post kE_108 (q_X4_takeDefault_126 post kE_108 kE_132 kc_20)) n9 x1 x2 v1005 0 (σ1003))))) x1 x2 (σ))))
def q_X4_takeDefault  (post : Mem → Prop) (p1 : Int32) (σ : Mem) : Prop := (vp_in p1 5 ∧ (q_J6_bitCount_0f7a4 (fun (r2 : Int32) (σ3 : Mem) => ((1 < r2 → (∃ n9 : Nat, lp_3 (q_X4_takeDefault_20 post (q_X4_takeDefault_108 post) (q_X4_takeDefault_132 post)) n9 p1 9 (σ))) ∧ (¬ (1 < r2) → post (σ)))) ((σ) 17 p1.toNatClampNeg) (σ)))
abbrev rm_X4_takeDefault : Room := { frames := 3, cells := 0, slots := 0, locals := 101 }
abbrev wq_X4_takeDefault : List Cond := Cond.code yX4_takeDefault cX4_takeDefault 5 none :: wALL
set_option maxHeartbeats 4000000 in
set_option maxRecDepth 100000 in
theorem c_X4_takeDefault (l : Launch) (D : va_G) (k ad : Nat → Nat) {sz : Nat} {σ : Mem} {p1 : Int32} {post : Mem → Prop} (hp : q_X4_takeDefault post p1 σ) : Met l yX4_takeDefault wq_X4_takeDefault rm_X4_takeDefault (va_Pc [.ref (ad 11), .int p1] (Pw D k (W5 k ad (σ)) sz)) (va_Qv post (fun u => Bw D (W5 k ad (σ)) sz (W5 k ad u)) (va_A (W5 k ad (σ)) sz)) 0 0 (va_A (W5 k ad (σ)) sz) := by
  refine fw_v (wf := fun u : Mem => W5 k ad u) (by decide) rfl (Nat.le_of_ble_eq_true rfl) ?_
  intro p e s m args below meth c A Q ls hC hP hD hl hmn hret
  obtain ⟨⟨hx, hb, hml, hown, hts⟩, hG, hA⟩ := id hC
  have hK := hG.1
  have hS : va_S A s.heap s.heap [] := va_S.rf
  have hin_X4 : ∀ w ∈ u_ws RX4 TX4 7, w ∈ wq_X4_takeDefault := fun w h => List.mem_cons_of_mem _ (iU_X4 w h)
  have hf_31 := hts _ (List.mem_cons_of_mem _ A_131)
  have hin_X3 : ∀ w ∈ u_ws RX3 TX3 3, w ∈ wq_X4_takeDefault := fun w h => List.mem_cons_of_mem _ (iU_X3 w h)
  have hf_75 := hts _ (List.mem_cons_of_mem _ A_145)
  have hf_15 := hts _ (List.mem_cons_of_mem _ A_126)
  have hf_28 := hts _ (List.mem_cons_of_mem _ A_130)
  have hf_53 := hts _ (List.mem_cons_of_mem _ A_146)
  have hf_98 := hts _ (List.mem_cons_of_mem _ A_147)
  have hl : lv_has ls 5 [(0, .ref (ad 11)), (1, .int p1)] := hl
  have hown : s.vm.findClass RX4 = some m.cls := hown
  unfold q_X4_takeDefault at hp
  have B_132 : ∀  (σ : Mem) (H : Heap) (locs : List Loc) (ls : Array Slot), va_P D vwCl (W5 k ad (σ)) H → va_D A (W5 k ad (σ)) → va_S A s.heap H locs → lv_has ls 5 [] → (q_X4_takeDefault_132 post)  σ → W p l e rm_X4_takeDefault s m args below meth c H locs 0 0 Q (F0 m 132 ls []) := by
    intro  σ H locs ls hP hD hS hl hp
    unfold q_X4_takeDefault_132 at hp
    exact hret (σ) _ _ _ _ _ _ dX4_takeDefault_132 hP hD hS (Nat.le_of_ble_eq_true rfl) (Nat.le_of_ble_eq_true rfl) hp
  have B_108 : ∀  (σ : Mem) (H : Heap) (locs : List Loc) (ls : Array Slot), va_P D vwCl (W5 k ad (σ)) H → va_D A (W5 k ad (σ)) → va_S A s.heap H locs → lv_has ls 5 [(0, .ref (ad 11))] → (q_X4_takeDefault_108 post)  σ → W p l e rm_X4_takeDefault s m args below meth c H locs 0 0 Q (F0 m 108 ls []) := by
    intro  σ H locs ls hP hD hS hl hp
    unfold q_X4_takeDefault_108 at hp
    refine lv_aload_n hx hb dX4_takeDefault_108 rfl (lv_at hl 0 rfl) ?_
    refine va_get (D := D) (ci := 8) (C := RX4) (T := TX4) (N := 7) hx hb hts hin_X4 hown hK hP 11 rfl rfl 3 (by decide) hf_31 (fun _ h9 => h9) rfl dX4_takeDefault_109 ?_
    refine lv_aload_n hx hb dX4_takeDefault_112 rfl (lv_at hl 0 rfl) ?_
    refine va_get (D := D) (ci := 8) (C := RX4) (T := TX4) (N := 7) hx hb hts hin_X4 hown hK hP 11 rfl rfl 2 (by decide) hf_28 (fun _ h9 => h9) rfl dX4_takeDefault_113 ?_
    refine fw_cvV (As := [.ref (ad 14)]) (rest := []) hC (c_X3_copy_16_14 l D k ad hp) (cwV 1 hts (gA_V A_154 A_155 A_156 A_115 A_122) rfl rfl rfl (by decide +kernel) ⟨Nat.le_of_ble_eq_true rfl, Nat.le_of_ble_eq_true rfl⟩) (va_recv hK hP (ci := 7) (q0 := 16) rfl rfl) rfl hl.1 rfl (Nat.le_of_ble_eq_true rfl) dX4_takeDefault_116 ⟨Nat.le_of_ble_eq_true rfl, Nat.le_of_ble_eq_true rfl⟩ hP hD hS Jn.same (fun σ30002 H locs hP hD hS hp => ?_)
    have hP : va_P D vwCl (W5 k ad (σ30002)) H := hP
    have hD : va_D A (W5 k ad (σ30002)) := hD
    exact hret (σ30002) _ _ _ _ _ _ dX4_takeDefault_119 hP hD hS (Nat.le_of_ble_eq_true rfl) (Nat.le_of_ble_eq_true rfl) hp
  have B_20 : ∀ (n_20 : Nat) (x1 : Int32) (x2 : Int32) (σ : Mem) (H : Heap) (locs : List Loc) (ls : Array Slot), va_P D vwCl (W5 k ad (σ)) H → va_D A (W5 k ad (σ)) → va_S A s.heap H locs → lv_has ls 5 [(0, .ref (ad 11)), (1, .int x1), (2, .int x2)] → lp_3 (q_X4_takeDefault_20 post (q_X4_takeDefault_108 post) (q_X4_takeDefault_132 post)) n_20 x1 x2 σ → W p l e rm_X4_takeDefault s m args below meth c H locs 0 0 Q (F0 m 20 ls []) := by
    intro n_20
    induction n_20 with
    | zero => intro x1 x2 σ H locs ls hP hD hS hl hp; exact hp.elim
    | succ n_20 ih_20 =>
      have B_126 : ∀ (x1 : Int32) (x2 : Int32) (σ : Mem) (H : Heap) (locs : List Loc) (ls : Array Slot), va_P D vwCl (W5 k ad (σ)) H → va_D A (W5 k ad (σ)) → va_S A s.heap H locs → lv_has ls 5 [(0, .ref (ad 11)), (1, .int x1), (2, .int x2)] → (q_X4_takeDefault_126 post (q_X4_takeDefault_108 post) (q_X4_takeDefault_132 post) (lp_3 (q_X4_takeDefault_20 post (q_X4_takeDefault_108 post) (q_X4_takeDefault_132 post)) n_20)) x1 x2 σ → W p l e rm_X4_takeDefault s m args below meth c H locs 0 0 Q (F0 m 126 ls []) := by
        intro x1 x2 σ H locs ls hP hD hS hl hp
        unfold q_X4_takeDefault_126 at hp
        obtain ⟨v50001, ev50001⟩ : ∃ z : Int32, z = x2 + (-1) := ⟨_, rfl⟩
        have hp := hp v50001 ev50001
        refine lv_iinc (v := v50001) (lv' := [(2, .int v50001), (0, .ref (ad 11)), (1, .int x1)]) hx hb dX4_takeDefault_126 hl (k := 2) rfl (by rw [ev50001]; rfl) (by decide) rfl (fun ls hl => ?_)
        refine lv_goto (tgt := 20) hx hb dX4_takeDefault_129 (by decide) ?_
        exact ih_20 x1 v50001 (σ) _ _ _  hP hD hS (lv_sub hl [1, 2, 0] rfl) hp
      have B_47 : ∀ (n_47 : Nat) (x1 : Int32) (x2 : Int32) (x3 : Int32) (x4 : Int32) (σ : Mem) (H : Heap) (locs : List Loc) (ls : Array Slot), va_P D vwCl (W5 k ad (σ)) H → va_D A (W5 k ad (σ)) → va_S A s.heap H locs → lv_has ls 5 [(0, .ref (ad 11)), (1, .int x1), (2, .int x2), (3, .int x3), (4, .int x4)] → lp_5 (q_X4_takeDefault_47 post (q_X4_takeDefault_108 post) (q_X4_takeDefault_126 post (q_X4_takeDefault_108 post) (q_X4_takeDefault_132 post) (lp_3 (q_X4_takeDefault_20 post (q_X4_takeDefault_108 post) (q_X4_takeDefault_132 post)) n_20))) n_47 x1 x2 x3 x4 σ → W p l e rm_X4_takeDefault s m args below meth c H locs 0 0 Q (F0 m 47 ls []) := by
        intro n_47
        induction n_47 with
        | zero => intro x1 x2 x3 x4 σ H locs ls hP hD hS hl hp; exact hp.elim
        | succ n_47 ih_47 =>
          have B_120 : ∀ (x1 : Int32) (x2 : Int32) (x3 : Int32) (x4 : Int32) (σ : Mem) (H : Heap) (locs : List Loc) (ls : Array Slot), va_P D vwCl (W5 k ad (σ)) H → va_D A (W5 k ad (σ)) → va_S A s.heap H locs → lv_has ls 5 [(0, .ref (ad 11)), (1, .int x1), (2, .int x2), (3, .int x3), (4, .int x4)] → (q_X4_takeDefault_120 post (q_X4_takeDefault_108 post) (q_X4_takeDefault_126 post (q_X4_takeDefault_108 post) (q_X4_takeDefault_132 post) (lp_3 (q_X4_takeDefault_20 post (q_X4_takeDefault_108 post) (q_X4_takeDefault_132 post)) n_20)) (lp_5 (q_X4_takeDefault_47 post (q_X4_takeDefault_108 post) (q_X4_takeDefault_126 post (q_X4_takeDefault_108 post) (q_X4_takeDefault_132 post) (lp_3 (q_X4_takeDefault_20 post (q_X4_takeDefault_108 post) (q_X4_takeDefault_132 post)) n_20))) n_47)) x1 x2 x3 x4 σ → W p l e rm_X4_takeDefault s m args below meth c H locs 0 0 Q (F0 m 120 ls []) := by
            intro x1 x2 x3 x4 σ H locs ls hP hD hS hl hp
            unfold q_X4_takeDefault_120 at hp
            obtain ⟨v40001, ev40001⟩ : ∃ z : Int32, z = x4 + 1 := ⟨_, rfl⟩
            have hp := hp v40001 ev40001
            refine lv_iinc (v := v40001) (lv' := [(4, .int v40001), (0, .ref (ad 11)), (1, .int x1), (2, .int x2), (3, .int x3)]) hx hb dX4_takeDefault_120 hl (k := 4) rfl (by rw [ev40001]; rfl) (by decide) rfl (fun ls hl => ?_)
            refine lv_goto (tgt := 47) hx hb dX4_takeDefault_123 (by decide) ?_
            exact ih_47 x1 x2 x3 v40001 (σ) _ _ _  hP hD hS (lv_sub hl [1, 2, 3, 4, 0] rfl) hp
          intro x1 x2 x3 x4 σ H locs ls hP hD hS hl hp
          have hp : q_X4_takeDefault_47 post (q_X4_takeDefault_108 post) (q_X4_takeDefault_126 post (q_X4_takeDefault_108 post) (q_X4_takeDefault_132 post) (lp_3 (q_X4_takeDefault_20 post (q_X4_takeDefault_108 post) (q_X4_takeDefault_132 post)) n_20)) (lp_5 (q_X4_takeDefault_47 post (q_X4_takeDefault_108 post) (q_X4_takeDefault_126 post (q_X4_takeDefault_108 post) (q_X4_takeDefault_132 post) (lp_3 (q_X4_takeDefault_20 post (q_X4_takeDefault_108 post) (q_X4_takeDefault_132 post)) n_20))) n_47) x1 x2 x3 x4 σ := hp
          unfold q_X4_takeDefault_47 at hp
          refine lv_iload hx hb dX4_takeDefault_47 (lv_at hl 4 rfl) ?_
          refine lv_bipush (v := 8) hx hb dX4_takeDefault_49 (by decide) ?_
          refine lv_icmp_ge (tgt := 126) hx hb dX4_takeDefault_51 (by decide) (fun c20001 => ?_) (fun c20001 => ?_)
          · have hp := hp.1 c20001
            exact B_126 x1 x2 (σ) _ _ _  hP hD hS (lv_sub hl [0, 1, 2] rfl) hp
          · have hp := hp.2 c20001
            refine lv_iload_n hx hb dX4_takeDefault_54 rfl (lv_at hl 3 rfl) ?_
            refine lv_iload hx hb dX4_takeDefault_55 (lv_at hl 4 rfl) ?_
            refine fw_ciSN (As := [.int x3, .int x4]) (rest := []) hC (c_X5_contains l D k hp) ⟨va_cnB 2 hts (gA_0 A_14) rfl rfl rfl (GG.nm hG (q := (RX4, 91, yX5_contains, "Meetjoin")) 3 rfl) (hts _ (List.mem_cons_of_mem _ A_25)) (by decide +kernel) ⟨Nat.le_of_ble_eq_true rfl, Nat.le_of_ble_eq_true rfl⟩, (hts _ (List.mem_cons_of_mem _ A_24)), trivial⟩ rfl hl.1 rfl (Nat.le_of_ble_eq_true rfl) dX4_takeDefault_57 ⟨Nat.le_of_ble_eq_true rfl, Nat.le_of_ble_eq_true rfl⟩ P_nil D_nil hS (Jn.pure (w0 := fun _ : Mem => []) hP hD) (fun r20002 σ20003 H locs hP hD hS hp => ?_)
            have hP : va_P D vwCl (W5 k ad (σ)) H := hP
            have hD : va_D A (W5 k ad (σ)) := hD
            refine lv_if_eq (tgt := 120) hx hb dX4_takeDefault_60 (by decide) (fun c20004 => ?_) (fun c20004 => ?_)
            · have hp := hp.1 c20004
              exact B_120 x1 x2 x3 x4 (σ) _ _ _  hP hD hS (lv_sub hl [0, 1, 2, 3, 4] rfl) hp
            · have hp := hp.2 c20004
              refine lv_aload_n hx hb dX4_takeDefault_63 rfl (lv_at hl 0 rfl) ?_
              refine va_get (D := D) (ci := 8) (C := RX4) (T := TX4) (N := 7) hx hb hts hin_X4 hown hK hP 11 rfl rfl 2 (by decide) hf_28 (fun _ h9 => h9) rfl dX4_takeDefault_64 ?_
              refine lv_aload_n hx hb dX4_takeDefault_67 rfl (lv_at hl 0 rfl) ?_
              refine va_get (D := D) (ci := 8) (C := RX4) (T := TX4) (N := 7) hx hb hts hin_X4 hown hK hP 11 rfl rfl 3 (by decide) hf_31 (fun _ h9 => h9) rfl dX4_takeDefault_68 ?_
              refine fw_cvV (As := [.ref (ad 16)]) (rest := []) hC (c_X3_copy_14_16 l D k ad hp) (cwV 1 hts (gA_V A_154 A_155 A_156 A_115 A_122) rfl rfl rfl (by decide +kernel) ⟨Nat.le_of_ble_eq_true rfl, Nat.le_of_ble_eq_true rfl⟩) (va_recv hK hP (ci := 7) (q0 := 14) rfl rfl) rfl hl.1 rfl (Nat.le_of_ble_eq_true rfl) dX4_takeDefault_71 ⟨Nat.le_of_ble_eq_true rfl, Nat.le_of_ble_eq_true rfl⟩ hP hD hS Jn.same (fun σ20006 H locs hP hD hS hp => ?_)
              have hP : va_P D vwCl (W5 k ad (σ20006)) H := hP
              have hD : va_D A (W5 k ad (σ20006)) := hD
              refine lv_aload_n hx hb dX4_takeDefault_74 rfl (lv_at hl 0 rfl) ?_
              refine va_get (D := D) (ci := 8) (C := RX4) (T := TX4) (N := 7) hx hb hts hin_X4 hown hK hP 11 rfl rfl 2 (by decide) hf_28 (fun _ h9 => h9) rfl dX4_takeDefault_75 ?_
              refine va_get (D := D) (ci := 7) (C := RX3) (T := TX3) (N := 3) hx hb hts hin_X3 hown hK hP 14 rfl rfl 1 (by decide) hf_75 (fun _ h9 => h9) rfl dX4_takeDefault_78 ?_
              refine lv_iload_n hx hb dX4_takeDefault_81 rfl (lv_at hl 1 rfl) ?_
              refine lv_iconst (v := 1) hx hb dX4_takeDefault_82 (by decide) ?_
              refine lv_iload hx hb dX4_takeDefault_83 (lv_at hl 4 rfl) ?_
              refine lv_ishl hx hb dX4_takeDefault_85 ?_
              obtain ⟨h20007, hp⟩ := hp
              refine va_iast hx hb hK hP hD hS 15 0 rfl rfl h20007 dX4_takeDefault_86 (fun H locs hP hD hS => ?_)
              obtain ⟨σ20008, eσ20008⟩ : ∃ z : Mem, z = mst (σ20006) 15 x1.toNatClampNeg ((1 : Int32) <<< (x4 &&& 31)) := ⟨_, rfl⟩
              have hp := hp σ20008 eσ20008
              have hP : va_P D vwCl (W5 k ad (σ20008)) H := by rw [eσ20008]; exact hP
              have hD : va_D A (W5 k ad (σ20008)) := by rw [eσ20008]; exact hD
              refine lv_aload_n hx hb dX4_takeDefault_87 rfl (lv_at hl 0 rfl) ?_
              refine va_get (D := D) (ci := 8) (C := RX4) (T := TX4) (N := 7) hx hb hts hin_X4 hown hK hP 11 rfl rfl 2 (by decide) hf_28 (fun _ h9 => h9) rfl dX4_takeDefault_88 ?_
              refine lv_aload_n hx hb dX4_takeDefault_91 rfl (lv_at hl 0 rfl) ?_
              refine va_get (D := D) (ci := 8) (C := RX4) (T := TX4) (N := 7) hx hb hts hin_X4 hown hK hP 11 rfl rfl 6 (by decide) hf_53 (fun _ h9 => h9) rfl dX4_takeDefault_92 ?_
              refine fw_cvV (As := [.int ((σ20008) 11 6)]) (rest := []) hC (c_X3_goOn_14 l D k ad hp) (cwV 1 hts (gA_V A_157 A_119 A_120 A_115 A_117) rfl rfl rfl (by decide +kernel) ⟨Nat.le_of_ble_eq_true rfl, Nat.le_of_ble_eq_true rfl⟩) (va_recv hK hP (ci := 7) (q0 := 14) rfl rfl) rfl hl.1 rfl (Nat.le_of_ble_eq_true rfl) dX4_takeDefault_95 ⟨Nat.le_of_ble_eq_true rfl, Nat.le_of_ble_eq_true rfl⟩ hP hD hS Jn.same (fun σ20010 H locs hP hD hS hp => ?_)
              have hP : va_P D vwCl (W5 k ad (σ20010)) H := hP
              have hD : va_D A (W5 k ad (σ20010)) := hD
              refine lv_aload_n hx hb dX4_takeDefault_98 rfl (lv_at hl 0 rfl) ?_
              refine va_get (D := D) (ci := 8) (C := RX4) (T := TX4) (N := 7) hx hb hts hin_X4 hown hK hP 11 rfl rfl 2 (by decide) hf_28 (fun _ h9 => h9) rfl dX4_takeDefault_99 ?_
              refine va_get (D := D) (ci := 7) (C := RX3) (T := TX3) (N := 3) hx hb hts hin_X3 hown hK hP 14 rfl rfl 2 (by decide) hf_98 (fun _ h9 => h9) rfl dX4_takeDefault_102 ?_
              refine lv_if_ne (tgt := 120) hx hb dX4_takeDefault_105 (by decide) (fun c20011 => ?_) (fun c20011 => ?_)
              · have hp := hp.1 c20011
                exact B_120 x1 x2 x3 x4 (σ20010) _ _ _  hP hD hS (lv_sub hl [0, 1, 2, 3, 4] rfl) hp
              · have hp := hp.2 c20011
                exact B_108  (σ20010) _ _ _  hP hD hS (lv_sub hl [0] rfl) hp
      intro x1 x2 σ H locs ls hP hD hS hl hp
      have hp : q_X4_takeDefault_20 post (q_X4_takeDefault_108 post) (q_X4_takeDefault_132 post) (lp_3 (q_X4_takeDefault_20 post (q_X4_takeDefault_108 post) (q_X4_takeDefault_132 post)) n_20) x1 x2 σ := hp
      unfold q_X4_takeDefault_20 at hp
      refine lv_iload_n hx hb dX4_takeDefault_20 rfl (lv_at hl 2 rfl) ?_
      refine lv_if_lt (tgt := 132) hx hb dX4_takeDefault_21 (by decide) (fun c10001 => ?_) (fun c10001 => ?_)
      · have hp := hp.1 c10001
        exact B_132  (σ) _ _ _  hP hD hS (lv_sub hl [] rfl) hp
      · have hp := hp.2 c10001
        refine lv_aload_n hx hb dX4_takeDefault_24 rfl (lv_at hl 0 rfl) ?_
        refine va_get (D := D) (ci := 8) (C := RX4) (T := TX4) (N := 7) hx hb hts hin_X4 hown hK hP 11 rfl rfl 0 (by decide) hf_15 (fun _ h9 => h9) rfl dX4_takeDefault_25 ?_
        refine lv_iload_n hx hb dX4_takeDefault_28 rfl (lv_at hl 1 rfl) ?_
        refine lv_iload_n hx hb dX4_takeDefault_29 rfl (lv_at hl 2 rfl) ?_
        refine fw_ciV (As := [.int x1, .int x2]) (rest := []) hC (c_X2_defaultsOf l D k ad hp) (cwV 2 hts (gA_V A_151 A_152 A_153 A_29 A_95) rfl rfl rfl (by decide +kernel) ⟨Nat.le_of_ble_eq_true rfl, Nat.le_of_ble_eq_true rfl⟩) (va_recv hK hP (ci := 6) (q0 := 1) rfl rfl) rfl hl.1 rfl (Nat.le_of_ble_eq_true rfl) dX4_takeDefault_30 ⟨Nat.le_of_ble_eq_true rfl, Nat.le_of_ble_eq_true rfl⟩ hP hD hS Jn.same (fun r10002 σ10003 H locs hP hD hS hp => ?_)
        have hP : va_P D vwCl (W5 k ad (σ10003)) H := hP
        have hD : va_D A (W5 k ad (σ10003)) := hD
        refine lv_aload_n hx hb dX4_takeDefault_33 rfl (lv_at hl 0 rfl) ?_
        refine va_get (D := D) (ci := 8) (C := RX4) (T := TX4) (N := 7) hx hb hts hin_X4 hown hK hP 11 rfl rfl 3 (by decide) hf_31 (fun _ h9 => h9) rfl dX4_takeDefault_34 ?_
        refine va_get (D := D) (ci := 7) (C := RX3) (T := TX3) (N := 3) hx hb hts hin_X3 hown hK hP 16 rfl rfl 1 (by decide) hf_75 (fun _ h9 => h9) rfl dX4_takeDefault_37 ?_
        refine lv_iload_n hx hb dX4_takeDefault_40 rfl (lv_at hl 1 rfl) ?_
        obtain ⟨h10004, hp⟩ := hp
        refine va_iald hx hb hK hP 17 0 rfl rfl h10004 dX4_takeDefault_41 ?_
        refine lv_iand hx hb dX4_takeDefault_42 ?_
        refine lv_topi (fun v10005 ev10005 => ?_)
        have hp := hp v10005 ev10005
        refine lv_istore_n (lv' := [(3, .int v10005), (0, .ref (ad 11)), (1, .int x1), (2, .int x2)]) hx hb dX4_takeDefault_43 rfl hl (by decide) rfl (fun ls hl => ?_)
        refine lv_iconst (v := 0) hx hb dX4_takeDefault_44 (by decide) ?_
        refine lv_istore (lv' := [(4, .int 0), (3, .int v10005), (0, .ref (ad 11)), (1, .int x1), (2, .int x2)]) hx hb dX4_takeDefault_45 hl (by decide) rfl (fun ls hl => ?_)
        obtain ⟨n9, hp⟩ := hp
        exact B_47 n9 x1 x2 v10005 0 (σ10003) _ _ _  hP hD hS (lv_sub hl [2, 3, 4, 1, 0] rfl) hp
  refine lv_aload_n hx hb dX4_takeDefault_0 rfl (lv_at hl 0 rfl) ?_
  refine va_get (D := D) (ci := 8) (C := RX4) (T := TX4) (N := 7) hx hb hts hin_X4 hown hK hP 11 rfl rfl 3 (by decide) hf_31 (fun _ h9 => h9) rfl dX4_takeDefault_1 ?_
  refine va_get (D := D) (ci := 7) (C := RX3) (T := TX3) (N := 3) hx hb hts hin_X3 hown hK hP 16 rfl rfl 1 (by decide) hf_75 (fun _ h9 => h9) rfl dX4_takeDefault_4 ?_
  refine lv_iload_n hx hb dX4_takeDefault_7 rfl (lv_at hl 1 rfl) ?_
  obtain ⟨h1, hp⟩ := hp
  refine va_iald hx hb hK hP 17 0 rfl rfl h1 dX4_takeDefault_8 ?_
  refine fw_ciS (As := [.int ((σ) 17 p1.toNatClampNeg)]) (rest := []) hC (c_J6_bitCount_0f7a4 l D k hp) (va_cwS 1 hts (gA_S A_148 A_149 A_150 A_141) rfl rfl rfl (by decide +kernel) ⟨Nat.le_of_ble_eq_true rfl, Nat.le_of_ble_eq_true rfl⟩) rfl hl.1 rfl (Nat.le_of_ble_eq_true rfl) dX4_takeDefault_9 ⟨Nat.le_of_ble_eq_true rfl, Nat.le_of_ble_eq_true rfl⟩ P_nil D_nil hS (Jn.pure (w0 := fun _ : Mem => []) hP hD) (fun r2 σ3 H locs hP hD hS hp => ?_)
  have hP : va_P D vwCl (W5 k ad (σ)) H := hP
  have hD : va_D A (W5 k ad (σ)) := hD
  refine lv_iconst (v := 1) hx hb dX4_takeDefault_12 (by decide) ?_
  refine lv_icmp_gt (tgt := 17) hx hb dX4_takeDefault_13 (by decide) (fun c4 => ?_) (fun c4 => ?_)
  · have hp := hp.1 c4
    refine lv_bipush (v := 9) hx hb dX4_takeDefault_17 (by decide) ?_
    refine lv_istore_n (lv' := [(2, .int 9), (0, .ref (ad 11)), (1, .int p1)]) hx hb dX4_takeDefault_19 rfl hl (by decide) rfl (fun ls hl => ?_)
    obtain ⟨n9, hp⟩ := hp
    exact B_20 n9 p1 9 (σ) _ _ _  hP hD hS (lv_sub hl [1, 2, 0] rfl) hp
  · have hp := hp.2 c4
    exact hret (σ) _ _ _ _ _ _ dX4_takeDefault_16 hP hD hS (Nat.le_of_ble_eq_true rfl) (Nat.le_of_ble_eq_true rfl) hp
def q_X4_renew_109  (post : Mem → Prop)  (σ : Mem) : Prop := post (σ)
def q_X4_renew_74  (post : Mem → Prop) (kE_109 : Mem → Prop) (kc_74 : Int32 → Mem → Prop) (x1 : Int32) (σ : Mem) : Prop := ((((σ) 1 9) ≤ x1 → kE_109 (σ)) ∧ (¬ (((σ) 1 9) ≤ x1) → (vp_in x1 5 ∧ (q_X4_onlyNumber (fun (r3003 : Int32) (σ3004 : Mem) => (vp_in x1 5 ∧ (∀ σ3006 : Mem, σ3006 = mst (σ) 22 x1.toNatClampNeg r3003 → (∀ v3007 : Int32, v3007 = x1 + 1 → kc_74 v3007 (σ3006))))) ((σ) 17 x1.toNatClampNeg) (σ)))))
def q_X4_renew_72  (post : Mem → Prop)  (σ : Mem) : Prop := (∃ n9 : Nat, lp_2 (q_X4_renew_74 post (q_X4_renew_109 post)) n9 0 (σ))
def q_X4_renew_50  (post : Mem → Prop) (kE_72 : Mem → Prop) (kc_50 : Int32 → Mem → Prop) (x1 : Int32) (σ : Mem) : Prop := ((((σ) 1 9) ≤ x1 → kE_72 (σ)) ∧ (¬ (((σ) 1 9) ≤ x1) → (q_X4_takeDefault (fun (σ1003 : Mem) => (∀ v1004 : Int32, v1004 = x1 + 1 → kc_50 v1004 (σ1003))) x1 (σ))))
def q_X4_renew  (post : Mem → Prop) (σ : Mem) : Prop := (q_X2_strictLines (fun (r1 : Int32) (σ2 : Mem) => (∀ σ3 : Mem, σ3 = mst (σ2) 11 6 r1 → (q_X3_begin 12 13 (fun (σ5 : Mem) => (q_X0_findBest (fun (σ7 : Mem) => (q_X3_copy 16 17 12 13 (fun (σ9 : Mem) => (∃ n9 : Nat, lp_2 (q_X4_renew_50 post (q_X4_renew_72 post)) n9 0 (σ9))) (σ7))) ((σ5) 11 6) (σ5))) ((σ3) 11 6) (σ3)))) (σ))
abbrev rm_X4_renew : Room := { frames := 18, cells := 0, slots := 0, locals := 886 }
abbrev wq_X4_renew : List Cond := Cond.code yX4_renew cX4_renew 2 none :: wALL
set_option maxHeartbeats 4000000 in
set_option maxRecDepth 100000 in
theorem c_X4_renew (l : Launch) (D : va_G) (k ad : Nat → Nat) {sz : Nat} {σ : Mem} {post : Mem → Prop} (hp : q_X4_renew post σ) : Met l yX4_renew wq_X4_renew rm_X4_renew (va_Pc [.ref (ad 11)] (Pw D k (W5 k ad (σ)) sz)) (va_Qv post (fun u => Bw D (W5 k ad (σ)) sz (W5 k ad u)) (va_A (W5 k ad (σ)) sz)) 0 0 (va_A (W5 k ad (σ)) sz) := by
  refine fw_v (wf := fun u : Mem => W5 k ad u) (by decide) rfl (Nat.le_of_ble_eq_true rfl) ?_
  intro p e s m args below meth c A Q ls hC hP hD hl hmn hret
  obtain ⟨⟨hx, hb, hml, hown, hts⟩, hG, hA⟩ := id hC
  have hK := hG.1
  have hS : va_S A s.heap s.heap [] := va_S.rf
  have hin_X4 : ∀ w ∈ u_ws RX4 TX4 7, w ∈ wq_X4_renew := fun w h => List.mem_cons_of_mem _ (iU_X4 w h)
  have hf_15 := hts _ (List.mem_cons_of_mem _ A_126)
  have hf_53 := hts _ (List.mem_cons_of_mem _ A_146)
  have hf_24 := hts _ (List.mem_cons_of_mem _ A_129)
  have hf_37 := hts _ (List.mem_cons_of_mem _ A_134)
  have hf_31 := hts _ (List.mem_cons_of_mem _ A_131)
  have hin_X2 : ∀ w ∈ u_ws RX2 TX2 11, w ∈ wq_X4_renew := fun w h => List.mem_cons_of_mem _ (iU_X2 w h)
  have hf_69 := hts _ (List.mem_cons_of_mem _ A_160)
  have hf_9 := hts _ (List.mem_cons_of_mem _ A_125)
  have hin_X3 : ∀ w ∈ u_ws RX3 TX3 3, w ∈ wq_X4_renew := fun w h => List.mem_cons_of_mem _ (iU_X3 w h)
  have hf_75 := hts _ (List.mem_cons_of_mem _ A_145)
  have hl : lv_has ls 2 [(0, .ref (ad 11))] := hl
  have hown : s.vm.findClass RX4 = some m.cls := hown
  unfold q_X4_renew at hp
  have B_109 : ∀  (σ : Mem) (H : Heap) (locs : List Loc) (ls : Array Slot), va_P D vwCl (W5 k ad (σ)) H → va_D A (W5 k ad (σ)) → va_S A s.heap H locs → lv_has ls 2 [] → (q_X4_renew_109 post)  σ → W p l e rm_X4_renew s m args below meth c H locs 0 0 Q (F0 m 109 ls []) := by
    intro  σ H locs ls hP hD hS hl hp
    unfold q_X4_renew_109 at hp
    exact hret (σ) _ _ _ _ _ _ dX4_renew_109 hP hD hS (Nat.le_of_ble_eq_true rfl) (Nat.le_of_ble_eq_true rfl) hp
  have B_74 : ∀ (n_74 : Nat) (x1 : Int32) (σ : Mem) (H : Heap) (locs : List Loc) (ls : Array Slot), va_P D vwCl (W5 k ad (σ)) H → va_D A (W5 k ad (σ)) → va_S A s.heap H locs → lv_has ls 2 [(0, .ref (ad 11)), (1, .int x1)] → lp_2 (q_X4_renew_74 post (q_X4_renew_109 post)) n_74 x1 σ → W p l e rm_X4_renew s m args below meth c H locs 0 0 Q (F0 m 74 ls []) := by
    intro n_74
    induction n_74 with
    | zero => intro x1 σ H locs ls hP hD hS hl hp; exact hp.elim
    | succ n_74 ih_74 =>
      intro x1 σ H locs ls hP hD hS hl hp
      have hp : q_X4_renew_74 post (q_X4_renew_109 post) (lp_2 (q_X4_renew_74 post (q_X4_renew_109 post)) n_74) x1 σ := hp
      unfold q_X4_renew_74 at hp
      refine lv_iload_n hx hb dX4_renew_74 rfl (lv_at hl 1 rfl) ?_
      refine lv_aload_n hx hb dX4_renew_75 rfl (lv_at hl 0 rfl) ?_
      refine va_get (D := D) (ci := 8) (C := RX4) (T := TX4) (N := 7) hx hb hts hin_X4 hown hK hP 11 rfl rfl 0 (by decide) hf_15 (fun _ h9 => h9) rfl dX4_renew_76 ?_
      refine va_get (D := D) (ci := 6) (C := RX2) (T := TX2) (N := 11) hx hb hts hin_X2 hown hK hP 1 rfl rfl 9 (by decide) hf_69 (fun _ h9 => h9) rfl dX4_renew_79 ?_
      refine lv_icmp_ge (tgt := 109) hx hb dX4_renew_82 (by decide) (fun c30001 => ?_) (fun c30001 => ?_)
      · have hp := hp.1 c30001
        exact B_109  (σ) _ _ _  hP hD hS (lv_sub hl [] rfl) hp
      · have hp := hp.2 c30001
        refine lv_aload_n hx hb dX4_renew_85 rfl (lv_at hl 0 rfl) ?_
        refine va_get (D := D) (ci := 8) (C := RX4) (T := TX4) (N := 7) hx hb hts hin_X4 hown hK hP 11 rfl rfl 5 (by decide) hf_9 (fun _ h9 => h9) rfl dX4_renew_86 ?_
        refine lv_iload_n hx hb dX4_renew_89 rfl (lv_at hl 1 rfl) ?_
        refine lv_aload_n hx hb dX4_renew_90 rfl (lv_at hl 0 rfl) ?_
        refine va_get (D := D) (ci := 8) (C := RX4) (T := TX4) (N := 7) hx hb hts hin_X4 hown hK hP 11 rfl rfl 3 (by decide) hf_31 (fun _ h9 => h9) rfl dX4_renew_91 ?_
        refine va_get (D := D) (ci := 7) (C := RX3) (T := TX3) (N := 3) hx hb hts hin_X3 hown hK hP 16 rfl rfl 1 (by decide) hf_75 (fun _ h9 => h9) rfl dX4_renew_94 ?_
        refine lv_iload_n hx hb dX4_renew_97 rfl (lv_at hl 1 rfl) ?_
        obtain ⟨h30002, hp⟩ := hp
        refine va_iald hx hb hK hP 17 0 rfl rfl h30002 dX4_renew_98 ?_
        refine fw_ciS (As := [.int ((σ) 17 x1.toNatClampNeg)]) (rest := [.int x1, .ref (ad 22)]) hC (c_X4_onlyNumber l D k hp) (va_cwS 1 hts (gA_S A_174 A_175 A_173 A_159) rfl rfl rfl (by decide +kernel) ⟨Nat.le_of_ble_eq_true rfl, Nat.le_of_ble_eq_true rfl⟩) rfl hl.1 rfl (Nat.le_of_ble_eq_true rfl) dX4_renew_99 ⟨Nat.le_of_ble_eq_true rfl, Nat.le_of_ble_eq_true rfl⟩ P_nil D_nil hS (Jn.pure (w0 := fun _ : Mem => []) hP hD) (fun r30003 σ30004 H locs hP hD hS hp => ?_)
        have hP : va_P D vwCl (W5 k ad (σ)) H := hP
        have hD : va_D A (W5 k ad (σ)) := hD
        obtain ⟨h30005, hp⟩ := hp
        refine va_iast hx hb hK hP hD hS 22 0 rfl rfl h30005 dX4_renew_102 (fun H locs hP hD hS => ?_)
        obtain ⟨σ30006, eσ30006⟩ : ∃ z : Mem, z = mst (σ) 22 x1.toNatClampNeg r30003 := ⟨_, rfl⟩
        have hp := hp σ30006 eσ30006
        have hP : va_P D vwCl (W5 k ad (σ30006)) H := by rw [eσ30006]; exact hP
        have hD : va_D A (W5 k ad (σ30006)) := by rw [eσ30006]; exact hD
        obtain ⟨v30007, ev30007⟩ : ∃ z : Int32, z = x1 + 1 := ⟨_, rfl⟩
        have hp := hp v30007 ev30007
        refine lv_iinc (v := v30007) (lv' := [(1, .int v30007), (0, .ref (ad 11))]) hx hb dX4_renew_103 hl (k := 1) rfl (by rw [ev30007]; rfl) (by decide) rfl (fun ls hl => ?_)
        refine lv_goto (tgt := 74) hx hb dX4_renew_106 (by decide) ?_
        exact ih_74 v30007 (σ30006) _ _ _  hP hD hS (lv_sub hl [1, 0] rfl) hp
  have B_72 : ∀  (σ : Mem) (H : Heap) (locs : List Loc) (ls : Array Slot), va_P D vwCl (W5 k ad (σ)) H → va_D A (W5 k ad (σ)) → va_S A s.heap H locs → lv_has ls 2 [(0, .ref (ad 11))] → (q_X4_renew_72 post)  σ → W p l e rm_X4_renew s m args below meth c H locs 0 0 Q (F0 m 72 ls []) := by
    intro  σ H locs ls hP hD hS hl hp
    unfold q_X4_renew_72 at hp
    refine lv_iconst (v := 0) hx hb dX4_renew_72 (by decide) ?_
    refine lv_istore_n (lv' := [(1, .int 0), (0, .ref (ad 11))]) hx hb dX4_renew_73 rfl hl (by decide) rfl (fun ls hl => ?_)
    obtain ⟨n9, hp⟩ := hp
    exact B_74 n9 0 (σ) _ _ _  hP hD hS (lv_sub hl [1, 0] rfl) hp
  have B_50 : ∀ (n_50 : Nat) (x1 : Int32) (σ : Mem) (H : Heap) (locs : List Loc) (ls : Array Slot), va_P D vwCl (W5 k ad (σ)) H → va_D A (W5 k ad (σ)) → va_S A s.heap H locs → lv_has ls 2 [(0, .ref (ad 11)), (1, .int x1)] → lp_2 (q_X4_renew_50 post (q_X4_renew_72 post)) n_50 x1 σ → W p l e rm_X4_renew s m args below meth c H locs 0 0 Q (F0 m 50 ls []) := by
    intro n_50
    induction n_50 with
    | zero => intro x1 σ H locs ls hP hD hS hl hp; exact hp.elim
    | succ n_50 ih_50 =>
      intro x1 σ H locs ls hP hD hS hl hp
      have hp : q_X4_renew_50 post (q_X4_renew_72 post) (lp_2 (q_X4_renew_50 post (q_X4_renew_72 post)) n_50) x1 σ := hp
      unfold q_X4_renew_50 at hp
      refine lv_iload_n hx hb dX4_renew_50 rfl (lv_at hl 1 rfl) ?_
      refine lv_aload_n hx hb dX4_renew_51 rfl (lv_at hl 0 rfl) ?_
      refine va_get (D := D) (ci := 8) (C := RX4) (T := TX4) (N := 7) hx hb hts hin_X4 hown hK hP 11 rfl rfl 0 (by decide) hf_15 (fun _ h9 => h9) rfl dX4_renew_52 ?_
      refine va_get (D := D) (ci := 6) (C := RX2) (T := TX2) (N := 11) hx hb hts hin_X2 hown hK hP 1 rfl rfl 9 (by decide) hf_69 (fun _ h9 => h9) rfl dX4_renew_55 ?_
      refine lv_icmp_ge (tgt := 72) hx hb dX4_renew_58 (by decide) (fun c10001 => ?_) (fun c10001 => ?_)
      · have hp := hp.1 c10001
        exact B_72  (σ) _ _ _  hP hD hS (lv_sub hl [0] rfl) hp
      · have hp := hp.2 c10001
        refine lv_aload_n hx hb dX4_renew_61 rfl (lv_at hl 0 rfl) ?_
        refine lv_iload_n hx hb dX4_renew_62 rfl (lv_at hl 1 rfl) ?_
        refine fw_cvV (As := [.int x1]) (rest := []) hC (c_X4_takeDefault l D k ad hp) (cwV 1 hts (gA_V A_170 A_171 A_172 A_173 A_158) rfl rfl rfl (by decide +kernel) ⟨Nat.le_of_ble_eq_true rfl, Nat.le_of_ble_eq_true rfl⟩) (va_recv hK hP (ci := 8) (q0 := 11) rfl rfl) rfl hl.1 rfl (Nat.le_of_ble_eq_true rfl) dX4_renew_63 ⟨Nat.le_of_ble_eq_true rfl, Nat.le_of_ble_eq_true rfl⟩ hP hD hS Jn.same (fun σ10003 H locs hP hD hS hp => ?_)
        have hP : va_P D vwCl (W5 k ad (σ10003)) H := hP
        have hD : va_D A (W5 k ad (σ10003)) := hD
        obtain ⟨v10004, ev10004⟩ : ∃ z : Int32, z = x1 + 1 := ⟨_, rfl⟩
        have hp := hp v10004 ev10004
        refine lv_iinc (v := v10004) (lv' := [(1, .int v10004), (0, .ref (ad 11))]) hx hb dX4_renew_66 hl (k := 1) rfl (by rw [ev10004]; rfl) (by decide) rfl (fun ls hl => ?_)
        refine lv_goto (tgt := 50) hx hb dX4_renew_69 (by decide) ?_
        exact ih_50 v10004 (σ10003) _ _ _  hP hD hS (lv_sub hl [1, 0] rfl) hp
  refine lv_aload_n hx hb dX4_renew_0 rfl (lv_at hl 0 rfl) ?_
  refine lv_aload_n hx hb dX4_renew_1 rfl (lv_at hl 0 rfl) ?_
  refine va_get (D := D) (ci := 8) (C := RX4) (T := TX4) (N := 7) hx hb hts hin_X4 hown hK hP 11 rfl rfl 0 (by decide) hf_15 (fun _ h9 => h9) rfl dX4_renew_2 ?_
  refine fw_ciV (As := []) (rest := [.ref (ad 11)]) hC (c_X2_strictLines l D k ad hp) (cwV 0 hts (gA_V A_161 A_162 A_163 A_29 A_94) rfl rfl rfl (by decide +kernel) ⟨Nat.le_of_ble_eq_true rfl, Nat.le_of_ble_eq_true rfl⟩) (va_recv hK hP (ci := 6) (q0 := 1) rfl rfl) rfl hl.1 rfl (Nat.le_of_ble_eq_true rfl) dX4_renew_5 ⟨Nat.le_of_ble_eq_true rfl, Nat.le_of_ble_eq_true rfl⟩ hP hD hS Jn.same (fun r1 σ2 H locs hP hD hS hp => ?_)
  have hP : va_P D vwCl (W5 k ad (σ2)) H := hP
  have hD : va_D A (W5 k ad (σ2)) := hD
  refine va_put (D := D) (ci := 8) (v := .int r1) (ty := .int) (C := RX4) (T := TX4) (N := 7) hx hb hts hin_X4 tyX4 tyX4_ok nmX4 hown hK hP hD hS 11 rfl rfl 6 (by decide) hf_53 (fun _ h9 => h9) rfl (by decide +kernel) rfl rfl (Nat.le_of_ble_eq_true rfl) dX4_renew_8 (fun H locs hP hD hS => ?_)
  obtain ⟨σ3, eσ3⟩ : ∃ z : Mem, z = mst (σ2) 11 6 r1 := ⟨_, rfl⟩
  have hp := hp σ3 eσ3
  have hP : va_P D vwCl (W5 k ad (σ3)) H := by rw [eσ3]; exact hP
  have hD : va_D A (W5 k ad (σ3)) := by rw [eσ3]; exact hD
  refine lv_aload_n hx hb dX4_renew_11 rfl (lv_at hl 0 rfl) ?_
  refine va_get (D := D) (ci := 8) (C := RX4) (T := TX4) (N := 7) hx hb hts hin_X4 hown hK hP 11 rfl rfl 1 (by decide) hf_24 (fun _ h9 => h9) rfl dX4_renew_12 ?_
  refine lv_aload_n hx hb dX4_renew_15 rfl (lv_at hl 0 rfl) ?_
  refine va_get (D := D) (ci := 8) (C := RX4) (T := TX4) (N := 7) hx hb hts hin_X4 hown hK hP 11 rfl rfl 6 (by decide) hf_53 (fun _ h9 => h9) rfl dX4_renew_16 ?_
  refine fw_cvV (As := [.int ((σ3) 11 6)]) (rest := []) hC (c_X3_begin_12 l D k ad hp) (cwV 1 hts (gA_V A_164 A_165 A_166 A_115 A_121) rfl rfl rfl (by decide +kernel) ⟨Nat.le_of_ble_eq_true rfl, Nat.le_of_ble_eq_true rfl⟩) (va_recv hK hP (ci := 7) (q0 := 12) rfl rfl) rfl hl.1 rfl (Nat.le_of_ble_eq_true rfl) dX4_renew_19 ⟨Nat.le_of_ble_eq_true rfl, Nat.le_of_ble_eq_true rfl⟩ hP hD hS Jn.same (fun σ5 H locs hP hD hS hp => ?_)
  have hP : va_P D vwCl (W5 k ad (σ5)) H := hP
  have hD : va_D A (W5 k ad (σ5)) := hD
  refine lv_aload_n hx hb dX4_renew_22 rfl (lv_at hl 0 rfl) ?_
  refine va_get (D := D) (ci := 8) (C := RX4) (T := TX4) (N := 7) hx hb hts hin_X4 hown hK hP 11 rfl rfl 4 (by decide) hf_37 (fun _ h9 => h9) rfl dX4_renew_23 ?_
  refine lv_aload_n hx hb dX4_renew_26 rfl (lv_at hl 0 rfl) ?_
  refine va_get (D := D) (ci := 8) (C := RX4) (T := TX4) (N := 7) hx hb hts hin_X4 hown hK hP 11 rfl rfl 1 (by decide) hf_24 (fun _ h9 => h9) rfl dX4_renew_27 ?_
  refine lv_aload_n hx hb dX4_renew_30 rfl (lv_at hl 0 rfl) ?_
  refine va_get (D := D) (ci := 8) (C := RX4) (T := TX4) (N := 7) hx hb hts hin_X4 hown hK hP 11 rfl rfl 6 (by decide) hf_53 (fun _ h9 => h9) rfl dX4_renew_31 ?_
  refine fw_cvV (As := [.ref (ad 12), .int ((σ5) 11 6)]) (rest := []) hC (c_X0_findBest l D k ad hp) (cwV 2 hts (gA_V A_167 A_168 A_169 A_42 A_47) rfl rfl rfl (by decide +kernel) ⟨Nat.le_of_ble_eq_true rfl, Nat.le_of_ble_eq_true rfl⟩) (va_recv hK hP (ci := 4) (q0 := 18) rfl rfl) rfl hl.1 rfl (Nat.le_of_ble_eq_true rfl) dX4_renew_34 ⟨Nat.le_of_ble_eq_true rfl, Nat.le_of_ble_eq_true rfl⟩ hP hD hS Jn.same (fun σ7 H locs hP hD hS hp => ?_)
  have hP : va_P D vwCl (W5 k ad (σ7)) H := hP
  have hD : va_D A (W5 k ad (σ7)) := hD
  refine lv_aload_n hx hb dX4_renew_37 rfl (lv_at hl 0 rfl) ?_
  refine va_get (D := D) (ci := 8) (C := RX4) (T := TX4) (N := 7) hx hb hts hin_X4 hown hK hP 11 rfl rfl 3 (by decide) hf_31 (fun _ h9 => h9) rfl dX4_renew_38 ?_
  refine lv_aload_n hx hb dX4_renew_41 rfl (lv_at hl 0 rfl) ?_
  refine va_get (D := D) (ci := 8) (C := RX4) (T := TX4) (N := 7) hx hb hts hin_X4 hown hK hP 11 rfl rfl 1 (by decide) hf_24 (fun _ h9 => h9) rfl dX4_renew_42 ?_
  refine fw_cvV (As := [.ref (ad 12)]) (rest := []) hC (c_X3_copy_16_12 l D k ad hp) (cwV 1 hts (gA_V A_154 A_155 A_156 A_115 A_122) rfl rfl rfl (by decide +kernel) ⟨Nat.le_of_ble_eq_true rfl, Nat.le_of_ble_eq_true rfl⟩) (va_recv hK hP (ci := 7) (q0 := 16) rfl rfl) rfl hl.1 rfl (Nat.le_of_ble_eq_true rfl) dX4_renew_45 ⟨Nat.le_of_ble_eq_true rfl, Nat.le_of_ble_eq_true rfl⟩ hP hD hS Jn.same (fun σ9 H locs hP hD hS hp => ?_)
  have hP : va_P D vwCl (W5 k ad (σ9)) H := hP
  have hD : va_D A (W5 k ad (σ9)) := hD
  refine lv_iconst (v := 0) hx hb dX4_renew_48 (by decide) ?_
  refine lv_istore_n (lv' := [(1, .int 0), (0, .ref (ad 11))]) hx hb dX4_renew_49 rfl hl (by decide) rfl (fun ls hl => ?_)
  obtain ⟨n9, hp⟩ := hp
  exact B_50 n9 0 (σ9) _ _ _  hP hD hS (lv_sub hl [1, 0] rfl) hp
def q_X4_settledFields_34  (post : Int32 → Mem → Prop)  (x1 : Int32) (σ : Mem) : Prop := post x1 (σ)
def q_X4_settledFields_28  (post : Int32 → Mem → Prop) (kE_34 : Int32 → Mem → Prop) (kc_4 : Int32 → Int32 → Mem → Prop) (x1 : Int32) (x2 : Int32) (σ : Mem) : Prop := (∀ v2001 : Int32, v2001 = x2 + 1 → kc_4 x1 v2001 (σ))
def q_X4_settledFields_4  (post : Int32 → Mem → Prop) (kE_34 : Int32 → Mem → Prop) (kc_4 : Int32 → Int32 → Mem → Prop) (x1 : Int32) (x2 : Int32) (σ : Mem) : Prop := ((((σ) 1 9) ≤ x2 → kE_34 x1 (σ)) ∧ (¬ (((σ) 1 9) ≤ x2) → (vp_in x2 5 ∧ ((((σ) 22 x2.toNatClampNeg) = (-1) → (q_X4_settledFields_28 post kE_34 kc_4) x1 x2 (σ)) ∧ (¬ (((σ) 22 x2.toNatClampNeg) = (-1)) → (∀ v1004 : Int32, v1004 = x1 + 1 → (q_X4_settledFields_28 post kE_34 kc_4) v1004 x2 (σ)))))))
def q_X4_settledFields  (post : Int32 → Mem → Prop) (σ : Mem) : Prop := (∃ n9 : Nat, lp_3 (q_X4_settledFields_4 post (q_X4_settledFields_34 post)) n9 0 0 (σ))
abbrev rm_X4_settledFields : Room := { frames := 0, cells := 0, slots := 0, locals := 0 }
abbrev wq_X4_settledFields : List Cond := Cond.code yX4_settledFields cX4_settledFields 3 (some .int) :: wALL
set_option maxHeartbeats 4000000 in
set_option maxRecDepth 100000 in
theorem c_X4_settledFields (l : Launch) (D : va_G) (k ad : Nat → Nat) {sz : Nat} {σ : Mem} {post : Int32 → Mem → Prop} (hp : q_X4_settledFields post σ) : Met l yX4_settledFields wq_X4_settledFields rm_X4_settledFields (va_Pc [.ref (ad 11)] (Pw D k (W5 k ad (σ)) sz)) (va_Qi post (fun u => Bw D (W5 k ad (σ)) sz (W5 k ad u)) (va_A (W5 k ad (σ)) sz)) 0 0 (va_A (W5 k ad (σ)) sz) := by
  refine fw_i (wf := fun u : Mem => W5 k ad u) (by decide) rfl (Nat.le_of_ble_eq_true rfl) ?_
  intro p e s m args below meth c A Q ls hC hP hD hl hret
  obtain ⟨⟨hx, hb, hml, hown, hts⟩, hG, hA⟩ := id hC
  have hK := hG.1
  have hS : va_S A s.heap s.heap [] := va_S.rf
  have hin_X4 : ∀ w ∈ u_ws RX4 TX4 7, w ∈ wq_X4_settledFields := fun w h => List.mem_cons_of_mem _ (iU_X4 w h)
  have hf_15 := hts _ (List.mem_cons_of_mem _ A_126)
  have hin_X2 : ∀ w ∈ u_ws RX2 TX2 11, w ∈ wq_X4_settledFields := fun w h => List.mem_cons_of_mem _ (iU_X2 w h)
  have hf_69 := hts _ (List.mem_cons_of_mem _ A_160)
  have hf_9 := hts _ (List.mem_cons_of_mem _ A_125)
  have hl : lv_has ls 3 [(0, .ref (ad 11))] := hl
  have hown : s.vm.findClass RX4 = some m.cls := hown
  unfold q_X4_settledFields at hp
  have B_34 : ∀ (x1 : Int32) (σ : Mem) (H : Heap) (locs : List Loc) (ls : Array Slot), va_P D vwCl (W5 k ad (σ)) H → va_D A (W5 k ad (σ)) → va_S A s.heap H locs → lv_has ls 3 [(1, .int x1)] → (q_X4_settledFields_34 post) x1 σ → W p l e rm_X4_settledFields s m args below meth c H locs 0 0 Q (F0 m 34 ls []) := by
    intro x1 σ H locs ls hP hD hS hl hp
    unfold q_X4_settledFields_34 at hp
    refine lv_iload_n hx hb dX4_settledFields_34 rfl (lv_at hl 0 rfl) ?_
    exact hret x1 (σ) _ _ _ _ _ _ dX4_settledFields_35 rfl hP hD hS (Nat.le_of_ble_eq_true rfl) (Nat.le_of_ble_eq_true rfl) hp
  have B_4 : ∀ (n_4 : Nat) (x1 : Int32) (x2 : Int32) (σ : Mem) (H : Heap) (locs : List Loc) (ls : Array Slot), va_P D vwCl (W5 k ad (σ)) H → va_D A (W5 k ad (σ)) → va_S A s.heap H locs → lv_has ls 3 [(0, .ref (ad 11)), (1, .int x1), (2, .int x2)] → lp_3 (q_X4_settledFields_4 post (q_X4_settledFields_34 post)) n_4 x1 x2 σ → W p l e rm_X4_settledFields s m args below meth c H locs 0 0 Q (F0 m 4 ls []) := by
    intro n_4
    induction n_4 with
    | zero => intro x1 x2 σ H locs ls hP hD hS hl hp; exact hp.elim
    | succ n_4 ih_4 =>
      have B_28 : ∀ (x1 : Int32) (x2 : Int32) (σ : Mem) (H : Heap) (locs : List Loc) (ls : Array Slot), va_P D vwCl (W5 k ad (σ)) H → va_D A (W5 k ad (σ)) → va_S A s.heap H locs → lv_has ls 3 [(0, .ref (ad 11)), (1, .int x1), (2, .int x2)] → (q_X4_settledFields_28 post (q_X4_settledFields_34 post) (lp_3 (q_X4_settledFields_4 post (q_X4_settledFields_34 post)) n_4)) x1 x2 σ → W p l e rm_X4_settledFields s m args below meth c H locs 0 0 Q (F0 m 28 ls []) := by
        intro x1 x2 σ H locs ls hP hD hS hl hp
        unfold q_X4_settledFields_28 at hp
        obtain ⟨v20001, ev20001⟩ : ∃ z : Int32, z = x2 + 1 := ⟨_, rfl⟩
        have hp := hp v20001 ev20001
        refine lv_iinc (v := v20001) (lv' := [(2, .int v20001), (0, .ref (ad 11)), (1, .int x1)]) hx hb dX4_settledFields_28 hl (k := 2) rfl (by rw [ev20001]; rfl) (by decide) rfl (fun ls hl => ?_)
        refine lv_goto (tgt := 4) hx hb dX4_settledFields_31 (by decide) ?_
        exact ih_4 x1 v20001 (σ) _ _ _  hP hD hS (lv_sub hl [1, 2, 0] rfl) hp
      intro x1 x2 σ H locs ls hP hD hS hl hp
      have hp : q_X4_settledFields_4 post (q_X4_settledFields_34 post) (lp_3 (q_X4_settledFields_4 post (q_X4_settledFields_34 post)) n_4) x1 x2 σ := hp
      unfold q_X4_settledFields_4 at hp
      refine lv_iload_n hx hb dX4_settledFields_4 rfl (lv_at hl 2 rfl) ?_
      refine lv_aload_n hx hb dX4_settledFields_5 rfl (lv_at hl 0 rfl) ?_
      refine va_get (D := D) (ci := 8) (C := RX4) (T := TX4) (N := 7) hx hb hts hin_X4 hown hK hP 11 rfl rfl 0 (by decide) hf_15 (fun _ h9 => h9) rfl dX4_settledFields_6 ?_
      refine va_get (D := D) (ci := 6) (C := RX2) (T := TX2) (N := 11) hx hb hts hin_X2 hown hK hP 1 rfl rfl 9 (by decide) hf_69 (fun _ h9 => h9) rfl dX4_settledFields_9 ?_
      refine lv_icmp_ge (tgt := 34) hx hb dX4_settledFields_12 (by decide) (fun c10001 => ?_) (fun c10001 => ?_)
      · have hp := hp.1 c10001
        exact B_34 x1 (σ) _ _ _  hP hD hS (lv_sub hl [1] rfl) hp
      · have hp := hp.2 c10001
        refine lv_aload_n hx hb dX4_settledFields_15 rfl (lv_at hl 0 rfl) ?_
        refine va_get (D := D) (ci := 8) (C := RX4) (T := TX4) (N := 7) hx hb hts hin_X4 hown hK hP 11 rfl rfl 5 (by decide) hf_9 (fun _ h9 => h9) rfl dX4_settledFields_16 ?_
        refine lv_iload_n hx hb dX4_settledFields_19 rfl (lv_at hl 2 rfl) ?_
        obtain ⟨h10002, hp⟩ := hp
        refine va_iald hx hb hK hP 22 0 rfl rfl h10002 dX4_settledFields_20 ?_
        refine lv_iconst (v := (-1)) hx hb dX4_settledFields_21 (by decide) ?_
        refine lv_icmp_eq (tgt := 28) hx hb dX4_settledFields_22 (by decide) (fun c10003 => ?_) (fun c10003 => ?_)
        · have hp := hp.1 c10003
          exact B_28 x1 x2 (σ) _ _ _  hP hD hS (lv_sub hl [0, 1, 2] rfl) hp
        · have hp := hp.2 c10003
          obtain ⟨v10004, ev10004⟩ : ∃ z : Int32, z = x1 + 1 := ⟨_, rfl⟩
          have hp := hp v10004 ev10004
          refine lv_iinc (v := v10004) (lv' := [(1, .int v10004), (0, .ref (ad 11)), (2, .int x2)]) hx hb dX4_settledFields_25 hl (k := 1) rfl (by rw [ev10004]; rfl) (by decide) rfl (fun ls hl => ?_)
          exact B_28 v10004 x2 (σ) _ _ _  hP hD hS (lv_sub hl [1, 0, 2] rfl) hp
  refine lv_iconst (v := 0) hx hb dX4_settledFields_0 (by decide) ?_
  refine lv_istore_n (lv' := [(1, .int 0), (0, .ref (ad 11))]) hx hb dX4_settledFields_1 rfl hl (by decide) rfl (fun ls hl => ?_)
  refine lv_iconst (v := 0) hx hb dX4_settledFields_2 (by decide) ?_
  refine lv_istore_n (lv' := [(2, .int 0), (1, .int 0), (0, .ref (ad 11))]) hx hb dX4_settledFields_3 rfl hl (by decide) rfl (fun ls hl => ?_)
  obtain ⟨n9, hp⟩ := hp
  exact B_4 n9 0 0 (σ) _ _ _  hP hD hS (lv_sub hl [2, 1, 0] rfl) hp
def q_X4_reasonOf_139  (post : Int32 → Mem → Prop)  (x3 : Int32) (σ : Mem) : Prop := post x3 (σ)
def q_X4_reasonOf_133  (post : Int32 → Mem → Prop) (kE_139 : Int32 → Mem → Prop) (kc_55 : Int32 → Int32 → Int32 → Int32 → Mem → Prop) (x1 : Int32) (x2 : Int32) (x3 : Int32) (x4 : Int32) (σ : Mem) : Prop := (∀ v6001 : Int32, v6001 = x4 + 1 → kc_55 x1 x2 x3 v6001 (σ))
def q_X4_reasonOf_130  (post : Int32 → Mem → Prop) (kE_139 : Int32 → Mem → Prop) (kc_55 : Int32 → Int32 → Int32 → Int32 → Mem → Prop) (x1 : Int32) (x2 : Int32) (x4 : Int32) (x5 : Int32) (σ : Mem) : Prop := (q_X4_reasonOf_133 post kE_139 kc_55) x1 x2 x5 x4 (σ)
def q_X4_reasonOf_55  (post : Int32 → Mem → Prop) (kE_139 : Int32 → Mem → Prop) (kc_55 : Int32 → Int32 → Int32 → Int32 → Mem → Prop) (x1 : Int32) (x2 : Int32) (x3 : Int32) (x4 : Int32) (σ : Mem) : Prop := ((((σ) 1 10) ≤ x4 → kE_139 x3 (σ)) ∧ (¬ (((σ) 1 10) ≤ x4) → (∀ v4002 : Int32, v4002 = (x3 &&& (((1 : Int32) <<< (x4 &&& 31)) ^^^ (-1))) → ((v4002 = x3 → (q_X4_reasonOf_133 post kE_139 kc_55) x1 x2 x3 x4 (σ)) ∧ (¬ (v4002 = x3) → (q_X3_begin 14 15 (fun (σ4005 : Mem) => ((x2 = 0 → ((((σ4005) 14 2) = 0 → (q_X4_reasonOf_133 post kE_139 kc_55) x1 x2 x3 x4 (σ4005)) ∧ (¬ (((σ4005) 14 2) = 0) → (q_X4_reasonOf_130 post kE_139 kc_55) x1 x2 x4 v4002 (σ4005)))) ∧ (¬ (x2 = 0) → (vp_in x1 5 ∧ (vp_in x1 5 ∧ ((((σ4005) 15 x1.toNatClampNeg) ≠ ((σ4005) 13 x1.toNatClampNeg) → (q_X4_reasonOf_133 post kE_139 kc_55) x1 x2 x3 x4 (σ4005)) ∧ (((σ4005) 15 x1.toNatClampNeg) = ((σ4005) 13 x1.toNatClampNeg) → (q_X4_reasonOf_130 post kE_139 kc_55) x1 x2 x4 v4002 (σ4005)))))))) v4002 (σ)))))))
def q_X4_reasonOf_47  (post : Int32 → Mem → Prop)  (x1 : Int32) (x2 : Int32) (σ : Mem) : Prop := (∀ v3001 : Int32, v3001 = ((σ) 11 6) → (∃ n9 : Nat, lp_5 (q_X4_reasonOf_55 post (q_X4_reasonOf_139 post)) n9 x1 x2 v3001 0 (σ)))
def q_X4_reasonOf_30  (post : Int32 → Mem → Prop)  (s0 : Int32) (x1 : Int32) (σ : Mem) : Prop := ((s0 ≠ 0 → (q_X4_reasonOf_47 post) x1 s0 (σ)) ∧ (s0 = 0 → ((((σ) 12 2) ≠ 0 → (q_X4_reasonOf_47 post) x1 s0 (σ)) ∧ (((σ) 12 2) = 0 → post 0 (σ)))))
def q_X4_reasonOf_29  (post : Int32 → Mem → Prop)  (x1 : Int32) (σ : Mem) : Prop := (q_X4_reasonOf_30 post) 0 x1 (σ)
def q_X4_reasonOf  (post : Int32 → Mem → Prop) (p1 : Int32) (σ : Mem) : Prop := ((p1 < 0 → (q_X4_reasonOf_29 post) p1 (σ)) ∧ (¬ (p1 < 0) → ((((σ) 1 9) ≤ p1 → (q_X4_reasonOf_29 post) p1 (σ)) ∧ (¬ (((σ) 1 9) ≤ p1) → ((((σ) 12 2) ≠ 0 → (q_X4_reasonOf_29 post) p1 (σ)) ∧ (((σ) 12 2) = 0 → (q_X4_reasonOf_30 post) 1 p1 (σ)))))))
abbrev rm_X4_reasonOf : Room := { frames := 4, cells := 0, slots := 0, locals := 94 }
abbrev wq_X4_reasonOf : List Cond := Cond.code yX4_reasonOf cX4_reasonOf 6 (some .int) :: wALL
set_option maxHeartbeats 4000000 in
set_option maxRecDepth 100000 in
theorem c_X4_reasonOf (l : Launch) (D : va_G) (k ad : Nat → Nat) {sz : Nat} {σ : Mem} {p1 : Int32} {post : Int32 → Mem → Prop} (hp : q_X4_reasonOf post p1 σ) : Met l yX4_reasonOf wq_X4_reasonOf rm_X4_reasonOf (va_Pc [.ref (ad 11), .int p1] (Pw D k (W5 k ad (σ)) sz)) (va_Qi post (fun u => Bw D (W5 k ad (σ)) sz (W5 k ad u)) (va_A (W5 k ad (σ)) sz)) 0 0 (va_A (W5 k ad (σ)) sz) := by
  refine fw_i (wf := fun u : Mem => W5 k ad u) (by decide) rfl (Nat.le_of_ble_eq_true rfl) ?_
  intro p e s m args below meth c A Q ls hC hP hD hl hret
  obtain ⟨⟨hx, hb, hml, hown, hts⟩, hG, hA⟩ := id hC
  have hK := hG.1
  have hS : va_S A s.heap s.heap [] := va_S.rf
  have hin_X4 : ∀ w ∈ u_ws RX4 TX4 7, w ∈ wq_X4_reasonOf := fun w h => List.mem_cons_of_mem _ (iU_X4 w h)
  have hf_15 := hts _ (List.mem_cons_of_mem _ A_126)
  have hin_X2 : ∀ w ∈ u_ws RX2 TX2 11, w ∈ wq_X4_reasonOf := fun w h => List.mem_cons_of_mem _ (iU_X2 w h)
  have hf_69 := hts _ (List.mem_cons_of_mem _ A_160)
  have hf_24 := hts _ (List.mem_cons_of_mem _ A_129)
  have hin_X3 : ∀ w ∈ u_ws RX3 TX3 3, w ∈ wq_X4_reasonOf := fun w h => List.mem_cons_of_mem _ (iU_X3 w h)
  have hf_98 := hts _ (List.mem_cons_of_mem _ A_147)
  have hf_53 := hts _ (List.mem_cons_of_mem _ A_146)
  have hf_102 := hts _ (List.mem_cons_of_mem _ A_178)
  have hf_28 := hts _ (List.mem_cons_of_mem _ A_130)
  have hf_75 := hts _ (List.mem_cons_of_mem _ A_145)
  have hl : lv_has ls 6 [(0, .ref (ad 11)), (1, .int p1)] := hl
  have hown : s.vm.findClass RX4 = some m.cls := hown
  unfold q_X4_reasonOf at hp
  have B_139 : ∀ (x3 : Int32) (σ : Mem) (H : Heap) (locs : List Loc) (ls : Array Slot), va_P D vwCl (W5 k ad (σ)) H → va_D A (W5 k ad (σ)) → va_S A s.heap H locs → lv_has ls 6 [(3, .int x3)] → (q_X4_reasonOf_139 post) x3 σ → W p l e rm_X4_reasonOf s m args below meth c H locs 0 0 Q (F0 m 139 ls []) := by
    intro x3 σ H locs ls hP hD hS hl hp
    unfold q_X4_reasonOf_139 at hp
    refine lv_iload_n hx hb dX4_reasonOf_139 rfl (lv_at hl 0 rfl) ?_
    exact hret x3 (σ) _ _ _ _ _ _ dX4_reasonOf_140 rfl hP hD hS (Nat.le_of_ble_eq_true rfl) (Nat.le_of_ble_eq_true rfl) hp
  have B_55 : ∀ (n_55 : Nat) (x1 : Int32) (x2 : Int32) (x3 : Int32) (x4 : Int32) (σ : Mem) (H : Heap) (locs : List Loc) (ls : Array Slot), va_P D vwCl (W5 k ad (σ)) H → va_D A (W5 k ad (σ)) → va_S A s.heap H locs → lv_has ls 6 [(0, .ref (ad 11)), (1, .int x1), (2, .int x2), (3, .int x3), (4, .int x4)] → lp_5 (q_X4_reasonOf_55 post (q_X4_reasonOf_139 post)) n_55 x1 x2 x3 x4 σ → W p l e rm_X4_reasonOf s m args below meth c H locs 0 0 Q (F0 m 55 ls []) := by
    intro n_55
    induction n_55 with
    | zero => intro x1 x2 x3 x4 σ H locs ls hP hD hS hl hp; exact hp.elim
    | succ n_55 ih_55 =>
      have B_133 : ∀ (x1 : Int32) (x2 : Int32) (x3 : Int32) (x4 : Int32) (σ : Mem) (H : Heap) (locs : List Loc) (ls : Array Slot), va_P D vwCl (W5 k ad (σ)) H → va_D A (W5 k ad (σ)) → va_S A s.heap H locs → lv_has ls 6 [(0, .ref (ad 11)), (1, .int x1), (2, .int x2), (3, .int x3), (4, .int x4)] → (q_X4_reasonOf_133 post (q_X4_reasonOf_139 post) (lp_5 (q_X4_reasonOf_55 post (q_X4_reasonOf_139 post)) n_55)) x1 x2 x3 x4 σ → W p l e rm_X4_reasonOf s m args below meth c H locs 0 0 Q (F0 m 133 ls []) := by
        intro x1 x2 x3 x4 σ H locs ls hP hD hS hl hp
        unfold q_X4_reasonOf_133 at hp
        obtain ⟨v60001, ev60001⟩ : ∃ z : Int32, z = x4 + 1 := ⟨_, rfl⟩
        have hp := hp v60001 ev60001
        refine lv_iinc (v := v60001) (lv' := [(4, .int v60001), (0, .ref (ad 11)), (1, .int x1), (2, .int x2), (3, .int x3)]) hx hb dX4_reasonOf_133 hl (k := 4) rfl (by rw [ev60001]; rfl) (by decide) rfl (fun ls hl => ?_)
        refine lv_goto (tgt := 55) hx hb dX4_reasonOf_136 (by decide) ?_
        exact ih_55 x1 x2 x3 v60001 (σ) _ _ _  hP hD hS (lv_sub hl [1, 2, 3, 4, 0] rfl) hp
      have B_130 : ∀ (x1 : Int32) (x2 : Int32) (x4 : Int32) (x5 : Int32) (σ : Mem) (H : Heap) (locs : List Loc) (ls : Array Slot), va_P D vwCl (W5 k ad (σ)) H → va_D A (W5 k ad (σ)) → va_S A s.heap H locs → lv_has ls 6 [(0, .ref (ad 11)), (1, .int x1), (2, .int x2), (4, .int x4), (5, .int x5)] → (q_X4_reasonOf_130 post (q_X4_reasonOf_139 post) (lp_5 (q_X4_reasonOf_55 post (q_X4_reasonOf_139 post)) n_55)) x1 x2 x4 x5 σ → W p l e rm_X4_reasonOf s m args below meth c H locs 0 0 Q (F0 m 130 ls []) := by
        intro x1 x2 x4 x5 σ H locs ls hP hD hS hl hp
        unfold q_X4_reasonOf_130 at hp
        refine lv_iload hx hb dX4_reasonOf_130 (lv_at hl 4 rfl) ?_
        refine lv_istore_n (lv' := [(3, .int x5), (0, .ref (ad 11)), (1, .int x1), (2, .int x2), (4, .int x4), (5, .int x5)]) hx hb dX4_reasonOf_132 rfl hl (by decide) rfl (fun ls hl => ?_)
        exact B_133 x1 x2 x5 x4 (σ) _ _ _  hP hD hS (lv_sub hl [1, 2, 3, 0, 4] rfl) hp
      intro x1 x2 x3 x4 σ H locs ls hP hD hS hl hp
      have hp : q_X4_reasonOf_55 post (q_X4_reasonOf_139 post) (lp_5 (q_X4_reasonOf_55 post (q_X4_reasonOf_139 post)) n_55) x1 x2 x3 x4 σ := hp
      unfold q_X4_reasonOf_55 at hp
      refine lv_iload hx hb dX4_reasonOf_55 (lv_at hl 4 rfl) ?_
      refine lv_aload_n hx hb dX4_reasonOf_57 rfl (lv_at hl 0 rfl) ?_
      refine va_get (D := D) (ci := 8) (C := RX4) (T := TX4) (N := 7) hx hb hts hin_X4 hown hK hP 11 rfl rfl 0 (by decide) hf_15 (fun _ h9 => h9) rfl dX4_reasonOf_58 ?_
      refine va_get (D := D) (ci := 6) (C := RX2) (T := TX2) (N := 11) hx hb hts hin_X2 hown hK hP 1 rfl rfl 10 (by decide) hf_102 (fun _ h9 => h9) rfl dX4_reasonOf_61 ?_
      refine lv_icmp_ge (tgt := 139) hx hb dX4_reasonOf_64 (by decide) (fun c40001 => ?_) (fun c40001 => ?_)
      · have hp := hp.1 c40001
        exact B_139 x3 (σ) _ _ _  hP hD hS (lv_sub hl [3] rfl) hp
      · have hp := hp.2 c40001
        refine lv_iload_n hx hb dX4_reasonOf_67 rfl (lv_at hl 3 rfl) ?_
        refine lv_iconst (v := 1) hx hb dX4_reasonOf_68 (by decide) ?_
        refine lv_iload hx hb dX4_reasonOf_69 (lv_at hl 4 rfl) ?_
        refine lv_ishl hx hb dX4_reasonOf_71 ?_
        refine lv_iconst (v := (-1)) hx hb dX4_reasonOf_72 (by decide) ?_
        refine lv_ixor hx hb dX4_reasonOf_73 ?_
        refine lv_iand hx hb dX4_reasonOf_74 ?_
        refine lv_topi (fun v40002 ev40002 => ?_)
        have hp := hp v40002 ev40002
        refine lv_istore (lv' := [(5, .int v40002), (0, .ref (ad 11)), (1, .int x1), (2, .int x2), (3, .int x3), (4, .int x4)]) hx hb dX4_reasonOf_75 hl (by decide) rfl (fun ls hl => ?_)
        refine lv_iload hx hb dX4_reasonOf_77 (lv_at hl 0 rfl) ?_
        refine lv_iload_n hx hb dX4_reasonOf_79 rfl (lv_at hl 4 rfl) ?_
        refine lv_icmp_eq (tgt := 133) hx hb dX4_reasonOf_80 (by decide) (fun c40003 => ?_) (fun c40003 => ?_)
        · have hp := hp.1 c40003
          exact B_133 x1 x2 x3 x4 (σ) _ _ _  hP hD hS (lv_sub hl [1, 2, 3, 4, 5] rfl) hp
        · have hp := hp.2 c40003
          refine lv_aload_n hx hb dX4_reasonOf_83 rfl (lv_at hl 1 rfl) ?_
          refine va_get (D := D) (ci := 8) (C := RX4) (T := TX4) (N := 7) hx hb hts hin_X4 hown hK hP 11 rfl rfl 2 (by decide) hf_28 (fun _ h9 => h9) rfl dX4_reasonOf_84 ?_
          refine lv_iload hx hb dX4_reasonOf_87 (lv_at hl 0 rfl) ?_
          refine fw_cvV (As := [.int v40002]) (rest := []) hC (c_X3_begin_14 l D k ad hp) (cwV 1 hts (gA_V A_164 A_165 A_166 A_115 A_121) rfl rfl rfl (by decide +kernel) ⟨Nat.le_of_ble_eq_true rfl, Nat.le_of_ble_eq_true rfl⟩) (va_recv hK hP (ci := 7) (q0 := 14) rfl rfl) rfl hl.1 rfl (Nat.le_of_ble_eq_true rfl) dX4_reasonOf_89 ⟨Nat.le_of_ble_eq_true rfl, Nat.le_of_ble_eq_true rfl⟩ hP hD hS Jn.same (fun σ40005 H locs hP hD hS hp => ?_)
          have hP : va_P D vwCl (W5 k ad (σ40005)) H := hP
          have hD : va_D A (W5 k ad (σ40005)) := hD
          refine lv_iload_n hx hb dX4_reasonOf_92 rfl (lv_at hl 3 rfl) ?_
          refine lv_if_eq (tgt := 120) hx hb dX4_reasonOf_93 (by decide) (fun c40006 => ?_) (fun c40006 => ?_)
          · have hp := hp.1 c40006
            refine lv_aload_n hx hb dX4_reasonOf_120 rfl (lv_at hl 1 rfl) ?_
            refine va_get (D := D) (ci := 8) (C := RX4) (T := TX4) (N := 7) hx hb hts hin_X4 hown hK hP 11 rfl rfl 2 (by decide) hf_28 (fun _ h9 => h9) rfl dX4_reasonOf_121 ?_
            refine va_get (D := D) (ci := 7) (C := RX3) (T := TX3) (N := 3) hx hb hts hin_X3 hown hK hP 14 rfl rfl 2 (by decide) hf_98 (fun _ h9 => h9) rfl dX4_reasonOf_124 ?_
            refine lv_if_eq (tgt := 133) hx hb dX4_reasonOf_127 (by decide) (fun c40007 => ?_) (fun c40007 => ?_)
            · have hp := hp.1 c40007
              exact B_133 x1 x2 x3 x4 (σ40005) _ _ _  hP hD hS (lv_sub hl [1, 2, 3, 4, 5] rfl) hp
            · have hp := hp.2 c40007
              exact B_130 x1 x2 x4 v40002 (σ40005) _ _ _  hP hD hS (lv_sub hl [1, 2, 3, 5, 0] rfl) hp
          · have hp := hp.2 c40006
            refine lv_aload_n hx hb dX4_reasonOf_96 rfl (lv_at hl 1 rfl) ?_
            refine va_get (D := D) (ci := 8) (C := RX4) (T := TX4) (N := 7) hx hb hts hin_X4 hown hK hP 11 rfl rfl 2 (by decide) hf_28 (fun _ h9 => h9) rfl dX4_reasonOf_97 ?_
            refine va_get (D := D) (ci := 7) (C := RX3) (T := TX3) (N := 3) hx hb hts hin_X3 hown hK hP 14 rfl rfl 1 (by decide) hf_75 (fun _ h9 => h9) rfl dX4_reasonOf_100 ?_
            refine lv_iload_n hx hb dX4_reasonOf_103 rfl (lv_at hl 2 rfl) ?_
            obtain ⟨h40008, hp⟩ := hp
            refine va_iald hx hb hK hP 15 0 rfl rfl h40008 dX4_reasonOf_104 ?_
            refine lv_aload_n hx hb dX4_reasonOf_105 rfl (lv_at hl 1 rfl) ?_
            refine va_get (D := D) (ci := 8) (C := RX4) (T := TX4) (N := 7) hx hb hts hin_X4 hown hK hP 11 rfl rfl 1 (by decide) hf_24 (fun _ h9 => h9) rfl dX4_reasonOf_106 ?_
            refine va_get (D := D) (ci := 7) (C := RX3) (T := TX3) (N := 3) hx hb hts hin_X3 hown hK hP 12 rfl rfl 1 (by decide) hf_75 (fun _ h9 => h9) rfl dX4_reasonOf_109 ?_
            refine lv_iload_n hx hb dX4_reasonOf_112 rfl (lv_at hl 2 rfl) ?_
            obtain ⟨h40009, hp⟩ := hp
            refine va_iald hx hb hK hP 13 0 rfl rfl h40009 dX4_reasonOf_113 ?_
            refine lv_icmp_ne (tgt := 133) hx hb dX4_reasonOf_114 (by decide) (fun c40010 => ?_) (fun c40010 => ?_)
            · have hp := hp.1 c40010
              exact B_133 x1 x2 x3 x4 (σ40005) _ _ _  hP hD hS (lv_sub hl [1, 2, 3, 4, 5] rfl) hp
            · have hp := hp.2 c40010
              refine lv_goto (tgt := 130) hx hb dX4_reasonOf_117 (by decide) ?_
              exact B_130 x1 x2 x4 v40002 (σ40005) _ _ _  hP hD hS (lv_sub hl [1, 2, 3, 5, 0] rfl) hp
  have B_47 : ∀ (x1 : Int32) (x2 : Int32) (σ : Mem) (H : Heap) (locs : List Loc) (ls : Array Slot), va_P D vwCl (W5 k ad (σ)) H → va_D A (W5 k ad (σ)) → va_S A s.heap H locs → lv_has ls 6 [(0, .ref (ad 11)), (1, .int x1), (2, .int x2)] → (q_X4_reasonOf_47 post) x1 x2 σ → W p l e rm_X4_reasonOf s m args below meth c H locs 0 0 Q (F0 m 47 ls []) := by
    intro x1 x2 σ H locs ls hP hD hS hl hp
    unfold q_X4_reasonOf_47 at hp
    refine lv_aload_n hx hb dX4_reasonOf_47 rfl (lv_at hl 0 rfl) ?_
    refine va_get (D := D) (ci := 8) (C := RX4) (T := TX4) (N := 7) hx hb hts hin_X4 hown hK hP 11 rfl rfl 6 (by decide) hf_53 (fun _ h9 => h9) rfl dX4_reasonOf_48 ?_
    refine lv_topi (fun v30001 ev30001 => ?_)
    have hp := hp v30001 ev30001
    refine lv_istore_n (lv' := [(3, .int v30001), (0, .ref (ad 11)), (1, .int x1), (2, .int x2)]) hx hb dX4_reasonOf_51 rfl hl (by decide) rfl (fun ls hl => ?_)
    refine lv_iconst (v := 0) hx hb dX4_reasonOf_52 (by decide) ?_
    refine lv_istore (lv' := [(4, .int 0), (3, .int v30001), (0, .ref (ad 11)), (1, .int x1), (2, .int x2)]) hx hb dX4_reasonOf_53 hl (by decide) rfl (fun ls hl => ?_)
    obtain ⟨n9, hp⟩ := hp
    exact B_55 n9 x1 x2 v30001 0 (σ) _ _ _  hP hD hS (lv_sub hl [2, 3, 4, 1, 0] rfl) hp
  have B_30 : ∀ (s0 : Int32) (x1 : Int32) (σ : Mem) (H : Heap) (locs : List Loc) (ls : Array Slot), va_P D vwCl (W5 k ad (σ)) H → va_D A (W5 k ad (σ)) → va_S A s.heap H locs → lv_has ls 6 [(0, .ref (ad 11)), (1, .int x1)] → (q_X4_reasonOf_30 post) s0 x1 σ → W p l e rm_X4_reasonOf s m args below meth c H locs 0 0 Q (F0 m 30 ls [.int s0]) := by
    intro s0 x1 σ H locs ls hP hD hS hl hp
    unfold q_X4_reasonOf_30 at hp
    refine lv_istore_n (lv' := [(2, .int s0), (0, .ref (ad 11)), (1, .int x1)]) hx hb dX4_reasonOf_30 rfl hl (by decide) rfl (fun ls hl => ?_)
    refine lv_iload_n hx hb dX4_reasonOf_31 rfl (lv_at hl 0 rfl) ?_
    refine lv_if_ne (tgt := 47) hx hb dX4_reasonOf_32 (by decide) (fun c20001 => ?_) (fun c20001 => ?_)
    · have hp := hp.1 c20001
      exact B_47 x1 s0 (σ) _ _ _  hP hD hS (lv_sub hl [1, 2, 0] rfl) hp
    · have hp := hp.2 c20001
      refine lv_aload_n hx hb dX4_reasonOf_35 rfl (lv_at hl 1 rfl) ?_
      refine va_get (D := D) (ci := 8) (C := RX4) (T := TX4) (N := 7) hx hb hts hin_X4 hown hK hP 11 rfl rfl 1 (by decide) hf_24 (fun _ h9 => h9) rfl dX4_reasonOf_36 ?_
      refine va_get (D := D) (ci := 7) (C := RX3) (T := TX3) (N := 3) hx hb hts hin_X3 hown hK hP 12 rfl rfl 2 (by decide) hf_98 (fun _ h9 => h9) rfl dX4_reasonOf_39 ?_
      refine lv_if_ne (tgt := 47) hx hb dX4_reasonOf_42 (by decide) (fun c20002 => ?_) (fun c20002 => ?_)
      · have hp := hp.1 c20002
        exact B_47 x1 s0 (σ) _ _ _  hP hD hS (lv_sub hl [1, 2, 0] rfl) hp
      · have hp := hp.2 c20002
        refine lv_iconst (v := 0) hx hb dX4_reasonOf_45 (by decide) ?_
        exact hret 0 (σ) _ _ _ _ _ _ dX4_reasonOf_46 rfl hP hD hS (Nat.le_of_ble_eq_true rfl) (Nat.le_of_ble_eq_true rfl) hp
  have B_29 : ∀ (x1 : Int32) (σ : Mem) (H : Heap) (locs : List Loc) (ls : Array Slot), va_P D vwCl (W5 k ad (σ)) H → va_D A (W5 k ad (σ)) → va_S A s.heap H locs → lv_has ls 6 [(0, .ref (ad 11)), (1, .int x1)] → (q_X4_reasonOf_29 post) x1 σ → W p l e rm_X4_reasonOf s m args below meth c H locs 0 0 Q (F0 m 29 ls []) := by
    intro x1 σ H locs ls hP hD hS hl hp
    unfold q_X4_reasonOf_29 at hp
    refine lv_iconst (v := 0) hx hb dX4_reasonOf_29 (by decide) ?_
    exact B_30 0 x1 (σ) _ _ _  hP hD hS (lv_sub hl [0, 1] rfl) hp
  refine lv_iload_n hx hb dX4_reasonOf_0 rfl (lv_at hl 1 rfl) ?_
  refine lv_if_lt (tgt := 29) hx hb dX4_reasonOf_1 (by decide) (fun c1 => ?_) (fun c1 => ?_)
  · have hp := hp.1 c1
    exact B_29 p1 (σ) _ _ _  hP hD hS (lv_sub hl [0, 1] rfl) hp
  · have hp := hp.2 c1
    refine lv_iload_n hx hb dX4_reasonOf_4 rfl (lv_at hl 1 rfl) ?_
    refine lv_aload_n hx hb dX4_reasonOf_5 rfl (lv_at hl 0 rfl) ?_
    refine va_get (D := D) (ci := 8) (C := RX4) (T := TX4) (N := 7) hx hb hts hin_X4 hown hK hP 11 rfl rfl 0 (by decide) hf_15 (fun _ h9 => h9) rfl dX4_reasonOf_6 ?_
    refine va_get (D := D) (ci := 6) (C := RX2) (T := TX2) (N := 11) hx hb hts hin_X2 hown hK hP 1 rfl rfl 9 (by decide) hf_69 (fun _ h9 => h9) rfl dX4_reasonOf_9 ?_
    refine lv_icmp_ge (tgt := 29) hx hb dX4_reasonOf_12 (by decide) (fun c2 => ?_) (fun c2 => ?_)
    · have hp := hp.1 c2
      exact B_29 p1 (σ) _ _ _  hP hD hS (lv_sub hl [0, 1] rfl) hp
    · have hp := hp.2 c2
      refine lv_aload_n hx hb dX4_reasonOf_15 rfl (lv_at hl 0 rfl) ?_
      refine va_get (D := D) (ci := 8) (C := RX4) (T := TX4) (N := 7) hx hb hts hin_X4 hown hK hP 11 rfl rfl 1 (by decide) hf_24 (fun _ h9 => h9) rfl dX4_reasonOf_16 ?_
      refine va_get (D := D) (ci := 7) (C := RX3) (T := TX3) (N := 3) hx hb hts hin_X3 hown hK hP 12 rfl rfl 2 (by decide) hf_98 (fun _ h9 => h9) rfl dX4_reasonOf_19 ?_
      refine lv_if_ne (tgt := 29) hx hb dX4_reasonOf_22 (by decide) (fun c3 => ?_) (fun c3 => ?_)
      · have hp := hp.1 c3
        exact B_29 p1 (σ) _ _ _  hP hD hS (lv_sub hl [0, 1] rfl) hp
      · have hp := hp.2 c3
        refine lv_iconst (v := 1) hx hb dX4_reasonOf_25 (by decide) ?_
        refine lv_goto (tgt := 30) hx hb dX4_reasonOf_26 (by decide) ?_
        exact B_30 1 p1 (σ) _ _ _  hP hD hS (lv_sub hl [0, 1] rfl) hp
