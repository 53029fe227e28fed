def q_X2_counts_43  (post : Int32 → Mem → Prop)  (s0 : Int32) (σ : Mem) : Prop := (bz s0 ∧ post s0 (σ))
def q_X2_counts_42  (post : Int32 → Mem → Prop)  (σ : Mem) : Prop := (q_X2_counts_43 post) 0 (σ)
def q_X2_counts_38  (post : Int32 → Mem → Prop)  (σ : Mem) : Prop := (q_X2_counts_43 post) 1 (σ)
def q_X2_counts  (post : Int32 → Mem → Prop) (p1 : Int32) (σ : Mem) : Prop := (vp_in p1 30 ∧ ((((σ) 10 p1.toNatClampNeg) ≠ 0 → (q_X2_counts_42 post) (σ)) ∧ (((σ) 10 p1.toNatClampNeg) = 0 → (vp_in p1 30 ∧ ((((σ) 9 p1.toNatClampNeg) ≠ 0 → (q_X2_counts_38 post) (σ)) ∧ (((σ) 9 p1.toNatClampNeg) = 0 → (vp_in p1 30 ∧ (vp_in p1 30 ∧ (vp_in ((σ) 6 p1.toNatClampNeg) 5 ∧ ((((σ) 5 p1.toNatClampNeg) ≠ ((σ) 2 (((σ) 6 p1.toNatClampNeg).toNatClampNeg)) → (q_X2_counts_42 post) (σ)) ∧ (((σ) 5 p1.toNatClampNeg) = ((σ) 2 (((σ) 6 p1.toNatClampNeg).toNatClampNeg)) → (q_X2_counts_38 post) (σ))))))))))))
abbrev rm_X2_counts : Room := { frames := 0, cells := 0, slots := 0, locals := 0 }
abbrev wq_X2_counts : List Cond := Cond.code yX2_counts cX2_counts 2 (some .boolean) :: wALL
set_option maxHeartbeats 4000000 in
set_option maxRecDepth 100000 in
theorem c_X2_counts (l : Launch) (D : va_G) (k ad : Nat → Nat) {sz : Nat} {σ : Mem} {p1 : Int32} {post : Int32 → Mem → Prop} (hp : q_X2_counts post p1 σ) : Met l yX2_counts wq_X2_counts rm_X2_counts (va_Pc [.ref (ad 1), .int p1] (Pw D k (W5 k ad (σ)) sz)) (va_Qi post (fun u => Bw D (W5 k ad (σ)) sz (W5 k ad u)) (va_A (W5 k ad (σ)) sz)) 0 0 (va_A (W5 k ad (σ)) sz) := by
  refine fw_i (wf := fun u : Mem => W5 k ad u) (by decide) rfl (Nat.le_of_ble_eq_true rfl) ?_
  intro p e s m args below meth c A Q ls hC hP hD hl hret
  obtain ⟨⟨hx, hb, hml, hown, hts⟩, hG, hA⟩ := id hC
  have hK := hG.1
  have hS : va_S A s.heap s.heap [] := va_S.rf
  have hin_X2 : ∀ w ∈ u_ws RX2 TX2 11, w ∈ wq_X2_counts := fun w h => List.mem_cons_of_mem _ (iU_X2 w h)
  have hf_37 := hts _ (List.mem_cons_of_mem _ A_84)
  have hf_33 := hts _ (List.mem_cons_of_mem _ A_83)
  have hf_21 := hts _ (List.mem_cons_of_mem _ A_79)
  have hf_9 := hts _ (List.mem_cons_of_mem _ A_77)
  have hf_24 := hts _ (List.mem_cons_of_mem _ A_80)
  have hl : lv_has ls 2 [(0, .ref (ad 1)), (1, .int p1)] := hl
  have hown : s.vm.findClass RX2 = some m.cls := hown
  unfold q_X2_counts at hp
  have B_43 : ∀ (s0 : Int32) (σ : Mem) (H : Heap) (locs : List Loc) (ls : Array Slot), va_P D vwCl (W5 k ad (σ)) H → va_D A (W5 k ad (σ)) → va_S A s.heap H locs → lv_has ls 2 [] → (q_X2_counts_43 post) s0 σ → W p l e rm_X2_counts s m args below meth c H locs 0 0 Q (F0 m 43 ls [.int s0]) := by
    intro s0 σ H locs ls hP hD hS hl hp
    unfold q_X2_counts_43 at hp
    exact hret s0 (σ) _ _ _ _ _ _ dX2_counts_43 hp.1.1 hP hD hS (Nat.le_of_ble_eq_true rfl) (Nat.le_of_ble_eq_true rfl) hp.2
  have B_42 : ∀  (σ : Mem) (H : Heap) (locs : List Loc) (ls : Array Slot), va_P D vwCl (W5 k ad (σ)) H → va_D A (W5 k ad (σ)) → va_S A s.heap H locs → lv_has ls 2 [] → (q_X2_counts_42 post)  σ → W p l e rm_X2_counts s m args below meth c H locs 0 0 Q (F0 m 42 ls []) := by
    intro  σ H locs ls hP hD hS hl hp
    unfold q_X2_counts_42 at hp
    refine lv_iconst (v := 0) hx hb dX2_counts_42 (by decide) ?_
    exact B_43 0 (σ) _ _ _  hP hD hS (lv_sub hl [] rfl) hp
  have B_38 : ∀  (σ : Mem) (H : Heap) (locs : List Loc) (ls : Array Slot), va_P D vwCl (W5 k ad (σ)) H → va_D A (W5 k ad (σ)) → va_S A s.heap H locs → lv_has ls 2 [] → (q_X2_counts_38 post)  σ → W p l e rm_X2_counts s m args below meth c H locs 0 0 Q (F0 m 38 ls []) := by
    intro  σ H locs ls hP hD hS hl hp
    unfold q_X2_counts_38 at hp
    refine lv_iconst (v := 1) hx hb dX2_counts_38 (by decide) ?_
    refine lv_goto (tgt := 43) hx hb dX2_counts_39 (by decide) ?_
    exact B_43 1 (σ) _ _ _  hP hD hS (lv_sub hl [] rfl) hp
  refine lv_aload_n hx hb dX2_counts_0 rfl (lv_at hl 0 rfl) ?_
  refine va_get (D := D) (ci := 6) (C := RX2) (T := TX2) (N := 11) hx hb hts hin_X2 hown hK hP 1 rfl rfl 8 (by decide) hf_37 (fun _ h9 => h9) rfl dX2_counts_1 ?_
  refine lv_iload_n hx hb dX2_counts_4 rfl (lv_at hl 1 rfl) ?_
  obtain ⟨h1, hp⟩ := hp
  refine va_zald hx hb hK hP 10 1 rfl rfl h1 dX2_counts_5 ?_
  refine lv_if_ne (tgt := 42) hx hb dX2_counts_6 (by decide) (fun c2 => ?_) (fun c2 => ?_)
  · have hp := hp.1 c2
    exact B_42  (σ) _ _ _  hP hD hS (lv_sub hl [] rfl) hp
  · have hp := hp.2 c2
    refine lv_aload_n hx hb dX2_counts_9 rfl (lv_at hl 0 rfl) ?_
    refine va_get (D := D) (ci := 6) (C := RX2) (T := TX2) (N := 11) hx hb hts hin_X2 hown hK hP 1 rfl rfl 7 (by decide) hf_33 (fun _ h9 => h9) rfl dX2_counts_10 ?_
    refine lv_iload_n hx hb dX2_counts_13 rfl (lv_at hl 1 rfl) ?_
    obtain ⟨h3, hp⟩ := hp
    refine va_zald hx hb hK hP 9 1 rfl rfl h3 dX2_counts_14 ?_
    refine lv_if_ne (tgt := 38) hx hb dX2_counts_15 (by decide) (fun c4 => ?_) (fun c4 => ?_)
    · have hp := hp.1 c4
      exact B_38  (σ) _ _ _  hP hD hS (lv_sub hl [] rfl) hp
    · have hp := hp.2 c4
      refine lv_aload_n hx hb dX2_counts_18 rfl (lv_at hl 0 rfl) ?_
      refine va_get (D := D) (ci := 6) (C := RX2) (T := TX2) (N := 11) hx hb hts hin_X2 hown hK hP 1 rfl rfl 3 (by decide) hf_21 (fun _ h9 => h9) rfl dX2_counts_19 ?_
      refine lv_iload_n hx hb dX2_counts_22 rfl (lv_at hl 1 rfl) ?_
      obtain ⟨h5, hp⟩ := hp
      refine va_iald hx hb hK hP 5 0 rfl rfl h5 dX2_counts_23 ?_
      refine lv_aload_n hx hb dX2_counts_24 rfl (lv_at hl 0 rfl) ?_
      refine va_get (D := D) (ci := 6) (C := RX2) (T := TX2) (N := 11) hx hb hts hin_X2 hown hK hP 1 rfl rfl 0 (by decide) hf_9 (fun _ h9 => h9) rfl dX2_counts_25 ?_
      refine lv_aload_n hx hb dX2_counts_28 rfl (lv_at hl 0 rfl) ?_
      refine va_get (D := D) (ci := 6) (C := RX2) (T := TX2) (N := 11) hx hb hts hin_X2 hown hK hP 1 rfl rfl 4 (by decide) hf_24 (fun _ h9 => h9) rfl dX2_counts_29 ?_
      refine lv_iload_n hx hb dX2_counts_32 rfl (lv_at hl 1 rfl) ?_
      obtain ⟨h6, hp⟩ := hp
      refine va_iald hx hb hK hP 6 0 rfl rfl h6 dX2_counts_33 ?_
      obtain ⟨h7, hp⟩ := hp
      refine va_iald hx hb hK hP 2 0 rfl rfl h7 dX2_counts_34 ?_
      refine lv_icmp_ne (tgt := 42) hx hb dX2_counts_35 (by decide) (fun c8 => ?_) (fun c8 => ?_)
      · have hp := hp.1 c8
        exact B_42  (σ) _ _ _  hP hD hS (lv_sub hl [] rfl) hp
      · have hp := hp.2 c8
        exact B_38  (σ) _ _ _  hP hD hS (lv_sub hl [] rfl) hp
def q_X2_countingLines_29  (post : Int32 → Mem → Prop)  (x1 : Int32) (σ : Mem) : Prop := post x1 (σ)
def q_X2_countingLines_23  (post : Int32 → Mem → Prop) (kE_29 : Int32 → Mem → Prop) (kc_4 : Int32 → Int32 → Mem → Prop) (x1 : Int32) (x2 : Int32) (σ : Mem) : Prop := (∀ v2001 : Int32, v2001 = x2 + 1 → kc_4 x1 v2001 (σ))
def q_X2_countingLines_4  (post : Int32 → Mem → Prop) (kE_29 : Int32 → Mem → Prop) (kc_4 : Int32 → Int32 → Mem → Prop) (x1 : Int32) (x2 : Int32) (σ : Mem) : Prop := ((((σ) 1 10) ≤ x2 → kE_29 x1 (σ)) ∧ (¬ (((σ) 1 10) ≤ x2) → (q_X2_counts (fun (r1002 : Int32) (σ1003 : Mem) => ((r1002 = 0 → (q_X2_countingLines_23 post kE_29 kc_4) x1 x2 (σ1003)) ∧ (¬ (r1002 = 0) → (∀ v1005 : Int32, v1005 = x1 + 1 → (q_X2_countingLines_23 post kE_29 kc_4) v1005 x2 (σ1003))))) x2 (σ))))
def q_X2_countingLines  (post : Int32 → Mem → Prop) (σ : Mem) : Prop := (∃ n9 : Nat, lp_3 (q_X2_countingLines_4 post (q_X2_countingLines_29 post)) n9 0 0 (σ))
abbrev rm_X2_countingLines : Room := { frames := 1, cells := 0, slots := 0, locals := 21 }
abbrev wq_X2_countingLines : List Cond := Cond.code yX2_countingLines cX2_countingLines 3 (some .int) :: wALL
set_option maxHeartbeats 4000000 in
set_option maxRecDepth 100000 in
theorem c_X2_countingLines (l : Launch) (D : va_G) (k ad : Nat → Nat) {sz : Nat} {σ : Mem} {post : Int32 → Mem → Prop} (hp : q_X2_countingLines post σ) : Met l yX2_countingLines wq_X2_countingLines rm_X2_countingLines (va_Pc [.ref (ad 1)] (Pw D k (W5 k ad (σ)) sz)) (va_Qi post (fun u => Bw D (W5 k ad (σ)) sz (W5 k ad u)) (va_A (W5 k ad (σ)) sz)) 0 0 (va_A (W5 k ad (σ)) sz) := by
  refine fw_i (wf := fun u : Mem => W5 k ad u) (by decide) rfl (Nat.le_of_ble_eq_true rfl) ?_
  intro p e s m args below meth c A Q ls hC hP hD hl hret
  obtain ⟨⟨hx, hb, hml, hown, hts⟩, hG, hA⟩ := id hC
  have hK := hG.1
  have hS : va_S A s.heap s.heap [] := va_S.rf
  have hin_X2 : ∀ w ∈ u_ws RX2 TX2 11, w ∈ wq_X2_countingLines := fun w h => List.mem_cons_of_mem _ (iU_X2 w h)
  have hf_44 := hts _ (List.mem_cons_of_mem _ A_88)
  have hl : lv_has ls 3 [(0, .ref (ad 1))] := hl
  have hown : s.vm.findClass RX2 = some m.cls := hown
  unfold q_X2_countingLines at hp
  have B_29 : ∀ (x1 : Int32) (σ : Mem) (H : Heap) (locs : List Loc) (ls : Array Slot), va_P D vwCl (W5 k ad (σ)) H → va_D A (W5 k ad (σ)) → va_S A s.heap H locs → lv_has ls 3 [(1, .int x1)] → (q_X2_countingLines_29 post) x1 σ → W p l e rm_X2_countingLines s m args below meth c H locs 0 0 Q (F0 m 29 ls []) := by
    intro x1 σ H locs ls hP hD hS hl hp
    unfold q_X2_countingLines_29 at hp
    refine lv_iload_n hx hb dX2_countingLines_29 rfl (lv_at hl 0 rfl) ?_
    exact hret x1 (σ) _ _ _ _ _ _ dX2_countingLines_30 rfl hP hD hS (Nat.le_of_ble_eq_true rfl) (Nat.le_of_ble_eq_true rfl) hp
  have B_4 : ∀ (n_4 : Nat) (x1 : Int32) (x2 : Int32) (σ : Mem) (H : Heap) (locs : List Loc) (ls : Array Slot), va_P D vwCl (W5 k ad (σ)) H → va_D A (W5 k ad (σ)) → va_S A s.heap H locs → lv_has ls 3 [(0, .ref (ad 1)), (1, .int x1), (2, .int x2)] → lp_3 (q_X2_countingLines_4 post (q_X2_countingLines_29 post)) n_4 x1 x2 σ → W p l e rm_X2_countingLines s m args below meth c H locs 0 0 Q (F0 m 4 ls []) := by
    intro n_4
    induction n_4 with
    | zero => intro x1 x2 σ H locs ls hP hD hS hl hp; exact hp.elim
    | succ n_4 ih_4 =>
      have B_23 : ∀ (x1 : Int32) (x2 : Int32) (σ : Mem) (H : Heap) (locs : List Loc) (ls : Array Slot), va_P D vwCl (W5 k ad (σ)) H → va_D A (W5 k ad (σ)) → va_S A s.heap H locs → lv_has ls 3 [(0, .ref (ad 1)), (1, .int x1), (2, .int x2)] → (q_X2_countingLines_23 post (q_X2_countingLines_29 post) (lp_3 (q_X2_countingLines_4 post (q_X2_countingLines_29 post)) n_4)) x1 x2 σ → W p l e rm_X2_countingLines s m args below meth c H locs 0 0 Q (F0 m 23 ls []) := by
        intro x1 x2 σ H locs ls hP hD hS hl hp
        unfold q_X2_countingLines_23 at hp
        obtain ⟨v20001, ev20001⟩ : ∃ z : Int32, z = x2 + 1 := ⟨_, rfl⟩
        have hp := hp v20001 ev20001
        refine lv_iinc (v := v20001) (lv' := [(2, .int v20001), (0, .ref (ad 1)), (1, .int x1)]) hx hb dX2_countingLines_23 hl (k := 2) rfl (by rw [ev20001]; rfl) (by decide) rfl (fun ls hl => ?_)
        refine lv_goto (tgt := 4) hx hb dX2_countingLines_26 (by decide) ?_
        exact ih_4 x1 v20001 (σ) _ _ _  hP hD hS (lv_sub hl [1, 2, 0] rfl) hp
      intro x1 x2 σ H locs ls hP hD hS hl hp
      have hp : q_X2_countingLines_4 post (q_X2_countingLines_29 post) (lp_3 (q_X2_countingLines_4 post (q_X2_countingLines_29 post)) n_4) x1 x2 σ := hp
      unfold q_X2_countingLines_4 at hp
      refine lv_iload_n hx hb dX2_countingLines_4 rfl (lv_at hl 2 rfl) ?_
      refine lv_aload_n hx hb dX2_countingLines_5 rfl (lv_at hl 0 rfl) ?_
      refine va_get (D := D) (ci := 6) (C := RX2) (T := TX2) (N := 11) hx hb hts hin_X2 hown hK hP 1 rfl rfl 10 (by decide) hf_44 (fun _ h9 => h9) rfl dX2_countingLines_6 ?_
      refine lv_icmp_ge (tgt := 29) hx hb dX2_countingLines_9 (by decide) (fun c10001 => ?_) (fun c10001 => ?_)
      · have hp := hp.1 c10001
        exact B_29 x1 (σ) _ _ _  hP hD hS (lv_sub hl [1] rfl) hp
      · have hp := hp.2 c10001
        refine lv_aload_n hx hb dX2_countingLines_12 rfl (lv_at hl 0 rfl) ?_
        refine lv_iload_n hx hb dX2_countingLines_13 rfl (lv_at hl 2 rfl) ?_
        refine fw_ciV (As := [.int x2]) (rest := []) hC (c_X2_counts l D k ad hp) (cwV 1 hts (gA_V A_91 A_92 A_93 A_29 A_89) rfl rfl rfl (by decide +kernel) ⟨Nat.le_of_ble_eq_true rfl, Nat.le_of_ble_eq_true rfl⟩) (va_recv hK hP (ci := 6) (q0 := 1) rfl rfl) rfl hl.1 rfl (Nat.le_of_ble_eq_true rfl) dX2_countingLines_14 ⟨Nat.le_of_ble_eq_true rfl, Nat.le_of_ble_eq_true rfl⟩ hP hD hS Jn.same (fun r10002 σ10003 H locs hP hD hS hp => ?_)
        have hP : va_P D vwCl (W5 k ad (σ10003)) H := hP
        have hD : va_D A (W5 k ad (σ10003)) := hD
        refine lv_if_eq (tgt := 23) hx hb dX2_countingLines_17 (by decide) (fun c10004 => ?_) (fun c10004 => ?_)
        · have hp := hp.1 c10004
          exact B_23 x1 x2 (σ10003) _ _ _  hP hD hS (lv_sub hl [0, 1, 2] rfl) hp
        · have hp := hp.2 c10004
          obtain ⟨v10005, ev10005⟩ : ∃ z : Int32, z = x1 + 1 := ⟨_, rfl⟩
          have hp := hp v10005 ev10005
          refine lv_iinc (v := v10005) (lv' := [(1, .int v10005), (0, .ref (ad 1)), (2, .int x2)]) hx hb dX2_countingLines_20 hl (k := 1) rfl (by rw [ev10005]; rfl) (by decide) rfl (fun ls hl => ?_)
          exact B_23 v10005 x2 (σ10003) _ _ _  hP hD hS (lv_sub hl [1, 0, 2] rfl) hp
  refine lv_iconst (v := 0) hx hb dX2_countingLines_0 (by decide) ?_
  refine lv_istore_n (lv' := [(1, .int 0), (0, .ref (ad 1))]) hx hb dX2_countingLines_1 rfl hl (by decide) rfl (fun ls hl => ?_)
  refine lv_iconst (v := 0) hx hb dX2_countingLines_2 (by decide) ?_
  refine lv_istore_n (lv' := [(2, .int 0), (1, .int 0), (0, .ref (ad 1))]) hx hb dX2_countingLines_3 rfl hl (by decide) rfl (fun ls hl => ?_)
  obtain ⟨n9, hp⟩ := hp
  exact B_4 n9 0 0 (σ) _ _ _  hP hD hS (lv_sub hl [2, 1, 0] rfl) hp
def q_X2_strictLines_42  (post : Int32 → Mem → Prop)  (x1 : Int32) (σ : Mem) : Prop := post x1 (σ)
def q_X2_strictLines_36  (post : Int32 → Mem → Prop) (kE_42 : Int32 → Mem → Prop) (kc_4 : Int32 → Int32 → Mem → Prop) (x1 : Int32) (x2 : Int32) (σ : Mem) : Prop := (∀ v2001 : Int32, v2001 = x2 + 1 → kc_4 x1 v2001 (σ))
def q_X2_strictLines_4  (post : Int32 → Mem → Prop) (kE_42 : Int32 → Mem → Prop) (kc_4 : Int32 → Int32 → Mem → Prop) (x1 : Int32) (x2 : Int32) (σ : Mem) : Prop := ((((σ) 1 10) ≤ x2 → kE_42 x1 (σ)) ∧ (¬ (((σ) 1 10) ≤ x2) → (vp_in x2 30 ∧ ((((σ) 4 x2.toNatClampNeg) = 5 → (q_X2_strictLines_36 post kE_42 kc_4) x1 x2 (σ)) ∧ (¬ (((σ) 4 x2.toNatClampNeg) = 5) → (q_X2_counts (fun (r1004 : Int32) (σ1005 : Mem) => ((r1004 = 0 → (q_X2_strictLines_36 post kE_42 kc_4) x1 x2 (σ1005)) ∧ (¬ (r1004 = 0) → (∀ v1007 : Int32, v1007 = (x1 ||| ((1 : Int32) <<< (x2 &&& 31))) → (q_X2_strictLines_36 post kE_42 kc_4) v1007 x2 (σ1005))))) x2 (σ)))))))
def q_X2_strictLines  (post : Int32 → Mem → Prop) (σ : Mem) : Prop := (∃ n9 : Nat, lp_3 (q_X2_strictLines_4 post (q_X2_strictLines_42 post)) n9 0 0 (σ))
abbrev rm_X2_strictLines : Room := { frames := 1, cells := 0, slots := 0, locals := 21 }
abbrev wq_X2_strictLines : List Cond := Cond.code yX2_strictLines cX2_strictLines 3 (some .int) :: wALL
set_option maxHeartbeats 4000000 in
set_option maxRecDepth 100000 in
theorem c_X2_strictLines (l : Launch) (D : va_G) (k ad : Nat → Nat) {sz : Nat} {σ : Mem} {post : Int32 → Mem → Prop} (hp : q_X2_strictLines post σ) : Met l yX2_strictLines wq_X2_strictLines rm_X2_strictLines (va_Pc [.ref (ad 1)] (Pw D k (W5 k ad (σ)) sz)) (va_Qi post (fun u => Bw D (W5 k ad (σ)) sz (W5 k ad u)) (va_A (W5 k ad (σ)) sz)) 0 0 (va_A (W5 k ad (σ)) sz) := by
  refine fw_i (wf := fun u : Mem => W5 k ad u) (by decide) rfl (Nat.le_of_ble_eq_true rfl) ?_
  intro p e s m args below meth c A Q ls hC hP hD hl hret
  obtain ⟨⟨hx, hb, hml, hown, hts⟩, hG, hA⟩ := id hC
  have hK := hG.1
  have hS : va_S A s.heap s.heap [] := va_S.rf
  have hin_X2 : ∀ w ∈ u_ws RX2 TX2 11, w ∈ wq_X2_strictLines := fun w h => List.mem_cons_of_mem _ (iU_X2 w h)
  have hf_44 := hts _ (List.mem_cons_of_mem _ A_88)
  have hf_18 := hts _ (List.mem_cons_of_mem _ A_16)
  have hl : lv_has ls 3 [(0, .ref (ad 1))] := hl
  have hown : s.vm.findClass RX2 = some m.cls := hown
  unfold q_X2_strictLines at hp
  have B_42 : ∀ (x1 : Int32) (σ : Mem) (H : Heap) (locs : List Loc) (ls : Array Slot), va_P D vwCl (W5 k ad (σ)) H → va_D A (W5 k ad (σ)) → va_S A s.heap H locs → lv_has ls 3 [(1, .int x1)] → (q_X2_strictLines_42 post) x1 σ → W p l e rm_X2_strictLines s m args below meth c H locs 0 0 Q (F0 m 42 ls []) := by
    intro x1 σ H locs ls hP hD hS hl hp
    unfold q_X2_strictLines_42 at hp
    refine lv_iload_n hx hb dX2_strictLines_42 rfl (lv_at hl 0 rfl) ?_
    exact hret x1 (σ) _ _ _ _ _ _ dX2_strictLines_43 rfl hP hD hS (Nat.le_of_ble_eq_true rfl) (Nat.le_of_ble_eq_true rfl) hp
  have B_4 : ∀ (n_4 : Nat) (x1 : Int32) (x2 : Int32) (σ : Mem) (H : Heap) (locs : List Loc) (ls : Array Slot), va_P D vwCl (W5 k ad (σ)) H → va_D A (W5 k ad (σ)) → va_S A s.heap H locs → lv_has ls 3 [(0, .ref (ad 1)), (1, .int x1), (2, .int x2)] → lp_3 (q_X2_strictLines_4 post (q_X2_strictLines_42 post)) n_4 x1 x2 σ → W p l e rm_X2_strictLines s m args below meth c H locs 0 0 Q (F0 m 4 ls []) := by
    intro n_4
    induction n_4 with
    | zero => intro x1 x2 σ H locs ls hP hD hS hl hp; exact hp.elim
    | succ n_4 ih_4 =>
      have B_36 : ∀ (x1 : Int32) (x2 : Int32) (σ : Mem) (H : Heap) (locs : List Loc) (ls : Array Slot), va_P D vwCl (W5 k ad (σ)) H → va_D A (W5 k ad (σ)) → va_S A s.heap H locs → lv_has ls 3 [(0, .ref (ad 1)), (1, .int x1), (2, .int x2)] → (q_X2_strictLines_36 post (q_X2_strictLines_42 post) (lp_3 (q_X2_strictLines_4 post (q_X2_strictLines_42 post)) n_4)) x1 x2 σ → W p l e rm_X2_strictLines s m args below meth c H locs 0 0 Q (F0 m 36 ls []) := by
        intro x1 x2 σ H locs ls hP hD hS hl hp
        unfold q_X2_strictLines_36 at hp
        obtain ⟨v20001, ev20001⟩ : ∃ z : Int32, z = x2 + 1 := ⟨_, rfl⟩
        have hp := hp v20001 ev20001
        refine lv_iinc (v := v20001) (lv' := [(2, .int v20001), (0, .ref (ad 1)), (1, .int x1)]) hx hb dX2_strictLines_36 hl (k := 2) rfl (by rw [ev20001]; rfl) (by decide) rfl (fun ls hl => ?_)
        refine lv_goto (tgt := 4) hx hb dX2_strictLines_39 (by decide) ?_
        exact ih_4 x1 v20001 (σ) _ _ _  hP hD hS (lv_sub hl [1, 2, 0] rfl) hp
      intro x1 x2 σ H locs ls hP hD hS hl hp
      have hp : q_X2_strictLines_4 post (q_X2_strictLines_42 post) (lp_3 (q_X2_strictLines_4 post (q_X2_strictLines_42 post)) n_4) x1 x2 σ := hp
      unfold q_X2_strictLines_4 at hp
      refine lv_iload_n hx hb dX2_strictLines_4 rfl (lv_at hl 2 rfl) ?_
      refine lv_aload_n hx hb dX2_strictLines_5 rfl (lv_at hl 0 rfl) ?_
      refine va_get (D := D) (ci := 6) (C := RX2) (T := TX2) (N := 11) hx hb hts hin_X2 hown hK hP 1 rfl rfl 10 (by decide) hf_44 (fun _ h9 => h9) rfl dX2_strictLines_6 ?_
      refine lv_icmp_ge (tgt := 42) hx hb dX2_strictLines_9 (by decide) (fun c10001 => ?_) (fun c10001 => ?_)
      · have hp := hp.1 c10001
        exact B_42 x1 (σ) _ _ _  hP hD hS (lv_sub hl [1] rfl) hp
      · have hp := hp.2 c10001
        refine lv_aload_n hx hb dX2_strictLines_12 rfl (lv_at hl 0 rfl) ?_
        refine va_get (D := D) (ci := 6) (C := RX2) (T := TX2) (N := 11) hx hb hts hin_X2 hown hK hP 1 rfl rfl 2 (by decide) hf_18 (fun _ h9 => h9) rfl dX2_strictLines_13 ?_
        refine lv_iload_n hx hb dX2_strictLines_16 rfl (lv_at hl 2 rfl) ?_
        obtain ⟨h10002, hp⟩ := hp
        refine va_iald hx hb hK hP 4 0 rfl rfl h10002 dX2_strictLines_17 ?_
        refine lv_iconst (v := 5) hx hb dX2_strictLines_18 (by decide) ?_
        refine lv_icmp_eq (tgt := 36) hx hb dX2_strictLines_19 (by decide) (fun c10003 => ?_) (fun c10003 => ?_)
        · have hp := hp.1 c10003
          exact B_36 x1 x2 (σ) _ _ _  hP hD hS (lv_sub hl [0, 1, 2] rfl) hp
        · have hp := hp.2 c10003
          refine lv_aload_n hx hb dX2_strictLines_22 rfl (lv_at hl 0 rfl) ?_
          refine lv_iload_n hx hb dX2_strictLines_23 rfl (lv_at hl 2 rfl) ?_
          refine fw_ciV (As := [.int x2]) (rest := []) hC (c_X2_counts l D k ad hp) (cwV 1 hts (gA_V A_91 A_92 A_93 A_29 A_89) rfl rfl rfl (by decide +kernel) ⟨Nat.le_of_ble_eq_true rfl, Nat.le_of_ble_eq_true rfl⟩) (va_recv hK hP (ci := 6) (q0 := 1) rfl rfl) rfl hl.1 rfl (Nat.le_of_ble_eq_true rfl) dX2_strictLines_24 ⟨Nat.le_of_ble_eq_true rfl, Nat.le_of_ble_eq_true rfl⟩ hP hD hS Jn.same (fun r10004 σ10005 H locs hP hD hS hp => ?_)
          have hP : va_P D vwCl (W5 k ad (σ10005)) H := hP
          have hD : va_D A (W5 k ad (σ10005)) := hD
          refine lv_if_eq (tgt := 36) hx hb dX2_strictLines_27 (by decide) (fun c10006 => ?_) (fun c10006 => ?_)
          · have hp := hp.1 c10006
            exact B_36 x1 x2 (σ10005) _ _ _  hP hD hS (lv_sub hl [0, 1, 2] rfl) hp
          · have hp := hp.2 c10006
            refine lv_iload_n hx hb dX2_strictLines_30 rfl (lv_at hl 1 rfl) ?_
            refine lv_iconst (v := 1) hx hb dX2_strictLines_31 (by decide) ?_
            refine lv_iload_n hx hb dX2_strictLines_32 rfl (lv_at hl 2 rfl) ?_
            refine lv_ishl hx hb dX2_strictLines_33 ?_
            refine lv_ior hx hb dX2_strictLines_34 ?_
            refine lv_topi (fun v10007 ev10007 => ?_)
            have hp := hp v10007 ev10007
            refine lv_istore_n (lv' := [(1, .int v10007), (0, .ref (ad 1)), (2, .int x2)]) hx hb dX2_strictLines_35 rfl hl (by decide) rfl (fun ls hl => ?_)
            exact B_36 v10007 x2 (σ10005) _ _ _  hP hD hS (lv_sub hl [1, 0, 2] rfl) hp
  refine lv_iconst (v := 0) hx hb dX2_strictLines_0 (by decide) ?_
  refine lv_istore_n (lv' := [(1, .int 0), (0, .ref (ad 1))]) hx hb dX2_strictLines_1 rfl hl (by decide) rfl (fun ls hl => ?_)
  refine lv_iconst (v := 0) hx hb dX2_strictLines_2 (by decide) ?_
  refine lv_istore_n (lv' := [(2, .int 0), (1, .int 0), (0, .ref (ad 1))]) hx hb dX2_strictLines_3 rfl hl (by decide) rfl (fun ls hl => ?_)
  obtain ⟨n9, hp⟩ := hp
  exact B_4 n9 0 0 (σ) _ _ _  hP hD hS (lv_sub hl [2, 1, 0] rfl) hp
def q_X2_defaultsOf_74  (post : Int32 → Mem → Prop)  (x3 : Int32) (σ : Mem) : Prop := post x3 (σ)
def q_X2_defaultsOf_68  (post : Int32 → Mem → Prop) (kE_74 : Int32 → Mem → Prop) (kc_5 : Int32 → Int32 → Int32 → Int32 → Mem → Prop) (x1 : Int32) (x2 : Int32) (x3 : Int32) (x4 : Int32) (σ : Mem) : Prop := (∀ v2001 : Int32, v2001 = x4 + 1 → kc_5 x1 x2 x3 v2001 (σ))
def q_X2_defaultsOf_5  (post : Int32 → Mem → Prop) (kE_74 : Int32 → Mem → Prop) (kc_5 : Int32 → Int32 → Int32 → Int32 → Mem → Prop) (x1 : Int32) (x2 : Int32) (x3 : Int32) (x4 : Int32) (σ : Mem) : Prop := ((((σ) 1 10) ≤ x4 → kE_74 x3 (σ)) ∧ (¬ (((σ) 1 10) ≤ x4) → (vp_in x4 30 ∧ ((((σ) 4 x4.toNatClampNeg) ≠ 5 → (q_X2_defaultsOf_68 post kE_74 kc_5) x1 x2 x3 x4 (σ)) ∧ (((σ) 4 x4.toNatClampNeg) = 5 → (vp_in x4 30 ∧ ((((σ) 6 x4.toNatClampNeg) ≠ x1 → (q_X2_defaultsOf_68 post kE_74 kc_5) x1 x2 x3 x4 (σ)) ∧ (((σ) 6 x4.toNatClampNeg) = x1 → (vp_in x4 30 ∧ ((((σ) 8 x4.toNatClampNeg) ≠ x2 → (q_X2_defaultsOf_68 post kE_74 kc_5) x1 x2 x3 x4 (σ)) ∧ (((σ) 8 x4.toNatClampNeg) = x2 → (q_X2_counts (fun (r1008 : Int32) (σ1009 : Mem) => ((r1008 = 0 → (q_X2_defaultsOf_68 post kE_74 kc_5) x1 x2 x3 x4 (σ1009)) ∧ (¬ (r1008 = 0) → (vp_in x4 30 ∧ (∀ v1012 : Int32, v1012 = (x3 ||| ((1 : Int32) <<< (((σ1009) 7 x4.toNatClampNeg) &&& 31))) → (q_X2_defaultsOf_68 post kE_74 kc_5) x1 x2 v1012 x4 (σ1009)))))) x4 (σ)))))))))))))
def q_X2_defaultsOf  (post : Int32 → Mem → Prop) (p1 : Int32) (p2 : Int32) (σ : Mem) : Prop := (∃ n9 : Nat, lp_5 (q_X2_defaultsOf_5 post (q_X2_defaultsOf_74 post)) n9 p1 p2 0 0 (σ))
abbrev rm_X2_defaultsOf : Room := { frames := 1, cells := 0, slots := 0, locals := 21 }
abbrev wq_X2_defaultsOf : List Cond := Cond.code yX2_defaultsOf cX2_defaultsOf 5 (some .int) :: wALL
set_option maxHeartbeats 4000000 in
set_option maxRecDepth 100000 in
theorem c_X2_defaultsOf (l : Launch) (D : va_G) (k ad : Nat → Nat) {sz : Nat} {σ : Mem} {p1 : Int32} {p2 : Int32} {post : Int32 → Mem → Prop} (hp : q_X2_defaultsOf post p1 p2 σ) : Met l yX2_defaultsOf wq_X2_defaultsOf rm_X2_defaultsOf (va_Pc [.ref (ad 1), .int p1, .int p2] (Pw D k (W5 k ad (σ)) sz)) (va_Qi post (fun u => Bw D (W5 k ad (σ)) sz (W5 k ad u)) (va_A (W5 k ad (σ)) sz)) 0 0 (va_A (W5 k ad (σ)) sz) := by
  refine fw_i (wf := fun u : Mem => W5 k ad u) (by decide) rfl (Nat.le_of_ble_eq_true rfl) ?_
  intro p e s m args below meth c A Q ls hC hP hD hl hret
  obtain ⟨⟨hx, hb, hml, hown, hts⟩, hG, hA⟩ := id hC
  have hK := hG.1
  have hS : va_S A s.heap s.heap [] := va_S.rf
  have hin_X2 : ∀ w ∈ u_ws RX2 TX2 11, w ∈ wq_X2_defaultsOf := fun w h => List.mem_cons_of_mem _ (iU_X2 w h)
  have hf_44 := hts _ (List.mem_cons_of_mem _ A_88)
  have hf_18 := hts _ (List.mem_cons_of_mem _ A_16)
  have hf_24 := hts _ (List.mem_cons_of_mem _ A_80)
  have hf_30 := hts _ (List.mem_cons_of_mem _ A_18)
  have hf_27 := hts _ (List.mem_cons_of_mem _ A_81)
  have hl : lv_has ls 5 [(0, .ref (ad 1)), (1, .int p1), (2, .int p2)] := hl
  have hown : s.vm.findClass RX2 = some m.cls := hown
  unfold q_X2_defaultsOf at hp
  have B_74 : ∀ (x3 : Int32) (σ : Mem) (H : Heap) (locs : List Loc) (ls : Array Slot), va_P D vwCl (W5 k ad (σ)) H → va_D A (W5 k ad (σ)) → va_S A s.heap H locs → lv_has ls 5 [(3, .int x3)] → (q_X2_defaultsOf_74 post) x3 σ → W p l e rm_X2_defaultsOf s m args below meth c H locs 0 0 Q (F0 m 74 ls []) := by
    intro x3 σ H locs ls hP hD hS hl hp
    unfold q_X2_defaultsOf_74 at hp
    refine lv_iload_n hx hb dX2_defaultsOf_74 rfl (lv_at hl 0 rfl) ?_
    exact hret x3 (σ) _ _ _ _ _ _ dX2_defaultsOf_75 rfl hP hD hS (Nat.le_of_ble_eq_true rfl) (Nat.le_of_ble_eq_true rfl) hp
  have B_5 : ∀ (n_5 : Nat) (x1 : Int32) (x2 : Int32) (x3 : Int32) (x4 : Int32) (σ : Mem) (H : Heap) (locs : List Loc) (ls : Array Slot), va_P D vwCl (W5 k ad (σ)) H → va_D A (W5 k ad (σ)) → va_S A s.heap H locs → lv_has ls 5 [(0, .ref (ad 1)), (1, .int x1), (2, .int x2), (3, .int x3), (4, .int x4)] → lp_5 (q_X2_defaultsOf_5 post (q_X2_defaultsOf_74 post)) n_5 x1 x2 x3 x4 σ → W p l e rm_X2_defaultsOf s m args below meth c H locs 0 0 Q (F0 m 5 ls []) := by
    intro n_5
    induction n_5 with
    | zero => intro x1 x2 x3 x4 σ H locs ls hP hD hS hl hp; exact hp.elim
    | succ n_5 ih_5 =>
      have B_68 : ∀ (x1 : Int32) (x2 : Int32) (x3 : Int32) (x4 : Int32) (σ : Mem) (H : Heap) (locs : List Loc) (ls : Array Slot), va_P D vwCl (W5 k ad (σ)) H → va_D A (W5 k ad (σ)) → va_S A s.heap H locs → lv_has ls 5 [(0, .ref (ad 1)), (1, .int x1), (2, .int x2), (3, .int x3), (4, .int x4)] → (q_X2_defaultsOf_68 post (q_X2_defaultsOf_74 post) (lp_5 (q_X2_defaultsOf_5 post (q_X2_defaultsOf_74 post)) n_5)) x1 x2 x3 x4 σ → W p l e rm_X2_defaultsOf s m args below meth c H locs 0 0 Q (F0 m 68 ls []) := by
        intro x1 x2 x3 x4 σ H locs ls hP hD hS hl hp
        unfold q_X2_defaultsOf_68 at hp
        obtain ⟨v20001, ev20001⟩ : ∃ z : Int32, z = x4 + 1 := ⟨_, rfl⟩
        have hp := hp v20001 ev20001
        refine lv_iinc (v := v20001) (lv' := [(4, .int v20001), (0, .ref (ad 1)), (1, .int x1), (2, .int x2), (3, .int x3)]) hx hb dX2_defaultsOf_68 hl (k := 4) rfl (by rw [ev20001]; rfl) (by decide) rfl (fun ls hl => ?_)
        refine lv_goto (tgt := 5) hx hb dX2_defaultsOf_71 (by decide) ?_
        exact ih_5 x1 x2 x3 v20001 (σ) _ _ _  hP hD hS (lv_sub hl [1, 2, 3, 4, 0] rfl) hp
      intro x1 x2 x3 x4 σ H locs ls hP hD hS hl hp
      have hp : q_X2_defaultsOf_5 post (q_X2_defaultsOf_74 post) (lp_5 (q_X2_defaultsOf_5 post (q_X2_defaultsOf_74 post)) n_5) x1 x2 x3 x4 σ := hp
      unfold q_X2_defaultsOf_5 at hp
      refine lv_iload hx hb dX2_defaultsOf_5 (lv_at hl 4 rfl) ?_
      refine lv_aload_n hx hb dX2_defaultsOf_7 rfl (lv_at hl 0 rfl) ?_
      refine va_get (D := D) (ci := 6) (C := RX2) (T := TX2) (N := 11) hx hb hts hin_X2 hown hK hP 1 rfl rfl 10 (by decide) hf_44 (fun _ h9 => h9) rfl dX2_defaultsOf_8 ?_
      refine lv_icmp_ge (tgt := 74) hx hb dX2_defaultsOf_11 (by decide) (fun c10001 => ?_) (fun c10001 => ?_)
      · have hp := hp.1 c10001
        exact B_74 x3 (σ) _ _ _  hP hD hS (lv_sub hl [3] rfl) hp
      · have hp := hp.2 c10001
        refine lv_aload_n hx hb dX2_defaultsOf_14 rfl (lv_at hl 0 rfl) ?_
        refine va_get (D := D) (ci := 6) (C := RX2) (T := TX2) (N := 11) hx hb hts hin_X2 hown hK hP 1 rfl rfl 2 (by decide) hf_18 (fun _ h9 => h9) rfl dX2_defaultsOf_15 ?_
        refine lv_iload hx hb dX2_defaultsOf_18 (lv_at hl 4 rfl) ?_
        obtain ⟨h10002, hp⟩ := hp
        refine va_iald hx hb hK hP 4 0 rfl rfl h10002 dX2_defaultsOf_20 ?_
        refine lv_iconst (v := 5) hx hb dX2_defaultsOf_21 (by decide) ?_
        refine lv_icmp_ne (tgt := 68) hx hb dX2_defaultsOf_22 (by decide) (fun c10003 => ?_) (fun c10003 => ?_)
        · have hp := hp.1 c10003
          exact B_68 x1 x2 x3 x4 (σ) _ _ _  hP hD hS (lv_sub hl [0, 1, 2, 3, 4] rfl) hp
        · have hp := hp.2 c10003
          refine lv_aload_n hx hb dX2_defaultsOf_25 rfl (lv_at hl 0 rfl) ?_
          refine va_get (D := D) (ci := 6) (C := RX2) (T := TX2) (N := 11) hx hb hts hin_X2 hown hK hP 1 rfl rfl 4 (by decide) hf_24 (fun _ h9 => h9) rfl dX2_defaultsOf_26 ?_
          refine lv_iload hx hb dX2_defaultsOf_29 (lv_at hl 4 rfl) ?_
          obtain ⟨h10004, hp⟩ := hp
          refine va_iald hx hb hK hP 6 0 rfl rfl h10004 dX2_defaultsOf_31 ?_
          refine lv_iload_n hx hb dX2_defaultsOf_32 rfl (lv_at hl 1 rfl) ?_
          refine lv_icmp_ne (tgt := 68) hx hb dX2_defaultsOf_33 (by decide) (fun c10005 => ?_) (fun c10005 => ?_)
          · have hp := hp.1 c10005
            exact B_68 x1 x2 x3 x4 (σ) _ _ _  hP hD hS (lv_sub hl [0, 1, 2, 3, 4] rfl) hp
          · have hp := hp.2 c10005
            refine lv_aload_n hx hb dX2_defaultsOf_36 rfl (lv_at hl 0 rfl) ?_
            refine va_get (D := D) (ci := 6) (C := RX2) (T := TX2) (N := 11) hx hb hts hin_X2 hown hK hP 1 rfl rfl 6 (by decide) hf_30 (fun _ h9 => h9) rfl dX2_defaultsOf_37 ?_
            refine lv_iload hx hb dX2_defaultsOf_40 (lv_at hl 4 rfl) ?_
            obtain ⟨h10006, hp⟩ := hp
            refine va_iald hx hb hK hP 8 0 rfl rfl h10006 dX2_defaultsOf_42 ?_
            refine lv_iload_n hx hb dX2_defaultsOf_43 rfl (lv_at hl 2 rfl) ?_
            refine lv_icmp_ne (tgt := 68) hx hb dX2_defaultsOf_44 (by decide) (fun c10007 => ?_) (fun c10007 => ?_)
            · have hp := hp.1 c10007
              exact B_68 x1 x2 x3 x4 (σ) _ _ _  hP hD hS (lv_sub hl [0, 1, 2, 3, 4] rfl) hp
            · have hp := hp.2 c10007
              refine lv_aload_n hx hb dX2_defaultsOf_47 rfl (lv_at hl 0 rfl) ?_
              refine lv_iload hx hb dX2_defaultsOf_48 (lv_at hl 4 rfl) ?_
              refine fw_ciV (As := [.int x4]) (rest := []) hC (c_X2_counts l D k ad hp) (cwV 1 hts (gA_V A_91 A_92 A_93 A_29 A_89) rfl rfl rfl (by decide +kernel) ⟨Nat.le_of_ble_eq_true rfl, Nat.le_of_ble_eq_true rfl⟩) (va_recv hK hP (ci := 6) (q0 := 1) rfl rfl) rfl hl.1 rfl (Nat.le_of_ble_eq_true rfl) dX2_defaultsOf_50 ⟨Nat.le_of_ble_eq_true rfl, Nat.le_of_ble_eq_true rfl⟩ hP hD hS Jn.same (fun r10008 σ10009 H locs hP hD hS hp => ?_)
              have hP : va_P D vwCl (W5 k ad (σ10009)) H := hP
              have hD : va_D A (W5 k ad (σ10009)) := hD
              refine lv_if_eq (tgt := 68) hx hb dX2_defaultsOf_53 (by decide) (fun c10010 => ?_) (fun c10010 => ?_)
              · have hp := hp.1 c10010
                exact B_68 x1 x2 x3 x4 (σ10009) _ _ _  hP hD hS (lv_sub hl [0, 1, 2, 3, 4] rfl) hp
              · have hp := hp.2 c10010
                refine lv_iload_n hx hb dX2_defaultsOf_56 rfl (lv_at hl 3 rfl) ?_
                refine lv_iconst (v := 1) hx hb dX2_defaultsOf_57 (by decide) ?_
                refine lv_aload_n hx hb dX2_defaultsOf_58 rfl (lv_at hl 0 rfl) ?_
                refine va_get (D := D) (ci := 6) (C := RX2) (T := TX2) (N := 11) hx hb hts hin_X2 hown hK hP 1 rfl rfl 5 (by decide) hf_27 (fun _ h9 => h9) rfl dX2_defaultsOf_59 ?_
                refine lv_iload hx hb dX2_defaultsOf_62 (lv_at hl 4 rfl) ?_
                obtain ⟨h10011, hp⟩ := hp
                refine va_iald hx hb hK hP 7 0 rfl rfl h10011 dX2_defaultsOf_64 ?_
                refine lv_ishl hx hb dX2_defaultsOf_65 ?_
                refine lv_ior hx hb dX2_defaultsOf_66 ?_
                refine lv_topi (fun v10012 ev10012 => ?_)
                have hp := hp v10012 ev10012
                refine lv_istore_n (lv' := [(3, .int v10012), (0, .ref (ad 1)), (1, .int x1), (2, .int x2), (4, .int x4)]) hx hb dX2_defaultsOf_67 rfl hl (by decide) rfl (fun ls hl => ?_)
                exact B_68 x1 x2 v10012 x4 (σ10009) _ _ _  hP hD hS (lv_sub hl [1, 2, 3, 0, 4] rfl) hp
  refine lv_iconst (v := 0) hx hb dX2_defaultsOf_0 (by decide) ?_
  refine lv_istore_n (lv' := [(3, .int 0), (0, .ref (ad 1)), (1, .int p1), (2, .int p2)]) hx hb dX2_defaultsOf_1 rfl hl (by decide) rfl (fun ls hl => ?_)
  refine lv_iconst (v := 0) hx hb dX2_defaultsOf_2 (by decide) ?_
  refine lv_istore (lv' := [(4, .int 0), (3, .int 0), (0, .ref (ad 1)), (1, .int p1), (2, .int p2)]) hx hb dX2_defaultsOf_3 hl (by decide) rfl (fun ls hl => ?_)
  obtain ⟨n9, hp⟩ := hp
  exact B_5 n9 p1 p2 0 0 (σ) _ _ _  hP hD hS (lv_sub hl [2, 3, 4, 1, 0] rfl) hp
def q_X2_isOfTwo_25  (post : Int32 → Mem → Prop)  (s0 : Int32) (σ : Mem) : Prop := (bz s0 ∧ post s0 (σ))
def q_X2_isOfTwo_20  (post : Int32 → Mem → Prop)  (σ : Mem) : Prop := (q_X2_isOfTwo_25 post) 1 (σ)
def q_X2_isOfTwo  (post : Int32 → Mem → Prop) (p1 : Int32) (σ : Mem) : Prop := (vp_in p1 30 ∧ ((((σ) 4 p1.toNatClampNeg) = 3 → (q_X2_isOfTwo_20 post) (σ)) ∧ (¬ (((σ) 4 p1.toNatClampNeg) = 3) → (vp_in p1 30 ∧ ((((σ) 4 p1.toNatClampNeg) ≠ 4 → (q_X2_isOfTwo_25 post) 0 (σ)) ∧ (((σ) 4 p1.toNatClampNeg) = 4 → (q_X2_isOfTwo_20 post) (σ)))))))
abbrev rm_X2_isOfTwo : Room := { frames := 0, cells := 0, slots := 0, locals := 0 }
abbrev wq_X2_isOfTwo : List Cond := Cond.code yX2_isOfTwo cX2_isOfTwo 2 (some .boolean) :: wALL
set_option maxHeartbeats 4000000 in
set_option maxRecDepth 100000 in
theorem c_X2_isOfTwo (l : Launch) (D : va_G) (k ad : Nat → Nat) {sz : Nat} {σ : Mem} {p1 : Int32} {post : Int32 → Mem → Prop} (hp : q_X2_isOfTwo post p1 σ) : Met l yX2_isOfTwo wq_X2_isOfTwo rm_X2_isOfTwo (va_Pc [.ref (ad 1), .int p1] (Pw D k (W5 k ad (σ)) sz)) (va_Qi post (fun u => Bw D (W5 k ad (σ)) sz (W5 k ad u)) (va_A (W5 k ad (σ)) sz)) 0 0 (va_A (W5 k ad (σ)) sz) := by
  refine fw_i (wf := fun u : Mem => W5 k ad u) (by decide) rfl (Nat.le_of_ble_eq_true rfl) ?_
  intro p e s m args below meth c A Q ls hC hP hD hl hret
  obtain ⟨⟨hx, hb, hml, hown, hts⟩, hG, hA⟩ := id hC
  have hK := hG.1
  have hS : va_S A s.heap s.heap [] := va_S.rf
  have hin_X2 : ∀ w ∈ u_ws RX2 TX2 11, w ∈ wq_X2_isOfTwo := fun w h => List.mem_cons_of_mem _ (iU_X2 w h)
  have hf_18 := hts _ (List.mem_cons_of_mem _ A_16)
  have hl : lv_has ls 2 [(0, .ref (ad 1)), (1, .int p1)] := hl
  have hown : s.vm.findClass RX2 = some m.cls := hown
  unfold q_X2_isOfTwo at hp
  have B_25 : ∀ (s0 : Int32) (σ : Mem) (H : Heap) (locs : List Loc) (ls : Array Slot), va_P D vwCl (W5 k ad (σ)) H → va_D A (W5 k ad (σ)) → va_S A s.heap H locs → lv_has ls 2 [] → (q_X2_isOfTwo_25 post) s0 σ → W p l e rm_X2_isOfTwo s m args below meth c H locs 0 0 Q (F0 m 25 ls [.int s0]) := by
    intro s0 σ H locs ls hP hD hS hl hp
    unfold q_X2_isOfTwo_25 at hp
    exact hret s0 (σ) _ _ _ _ _ _ dX2_isOfTwo_25 hp.1.1 hP hD hS (Nat.le_of_ble_eq_true rfl) (Nat.le_of_ble_eq_true rfl) hp.2
  have B_20 : ∀  (σ : Mem) (H : Heap) (locs : List Loc) (ls : Array Slot), va_P D vwCl (W5 k ad (σ)) H → va_D A (W5 k ad (σ)) → va_S A s.heap H locs → lv_has ls 2 [] → (q_X2_isOfTwo_20 post)  σ → W p l e rm_X2_isOfTwo s m args below meth c H locs 0 0 Q (F0 m 20 ls []) := by
    intro  σ H locs ls hP hD hS hl hp
    unfold q_X2_isOfTwo_20 at hp
    refine lv_iconst (v := 1) hx hb dX2_isOfTwo_20 (by decide) ?_
    refine lv_goto (tgt := 25) hx hb dX2_isOfTwo_21 (by decide) ?_
    exact B_25 1 (σ) _ _ _  hP hD hS (lv_sub hl [] rfl) hp
  refine lv_aload_n hx hb dX2_isOfTwo_0 rfl (lv_at hl 0 rfl) ?_
  refine va_get (D := D) (ci := 6) (C := RX2) (T := TX2) (N := 11) hx hb hts hin_X2 hown hK hP 1 rfl rfl 2 (by decide) hf_18 (fun _ h9 => h9) rfl dX2_isOfTwo_1 ?_
  refine lv_iload_n hx hb dX2_isOfTwo_4 rfl (lv_at hl 1 rfl) ?_
  obtain ⟨h1, hp⟩ := hp
  refine va_iald hx hb hK hP 4 0 rfl rfl h1 dX2_isOfTwo_5 ?_
  refine lv_iconst (v := 3) hx hb dX2_isOfTwo_6 (by decide) ?_
  refine lv_icmp_eq (tgt := 20) hx hb dX2_isOfTwo_7 (by decide) (fun c2 => ?_) (fun c2 => ?_)
  · have hp := hp.1 c2
    exact B_20  (σ) _ _ _  hP hD hS (lv_sub hl [] rfl) hp
  · have hp := hp.2 c2
    refine lv_aload_n hx hb dX2_isOfTwo_10 rfl (lv_at hl 0 rfl) ?_
    refine va_get (D := D) (ci := 6) (C := RX2) (T := TX2) (N := 11) hx hb hts hin_X2 hown hK hP 1 rfl rfl 2 (by decide) hf_18 (fun _ h9 => h9) rfl dX2_isOfTwo_11 ?_
    refine lv_iload_n hx hb dX2_isOfTwo_14 rfl (lv_at hl 1 rfl) ?_
    obtain ⟨h3, hp⟩ := hp
    refine va_iald hx hb hK hP 4 0 rfl rfl h3 dX2_isOfTwo_15 ?_
    refine lv_iconst (v := 4) hx hb dX2_isOfTwo_16 (by decide) ?_
    refine lv_icmp_ne (tgt := 24) hx hb dX2_isOfTwo_17 (by decide) (fun c4 => ?_) (fun c4 => ?_)
    · have hp := hp.1 c4
      refine lv_iconst (v := 0) hx hb dX2_isOfTwo_24 (by decide) ?_
      exact B_25 0 (σ) _ _ _  hP hD hS (lv_sub hl [] rfl) hp
    · have hp := hp.2 c4
      exact B_20  (σ) _ _ _  hP hD hS (lv_sub hl [] rfl) hp
def q_X2_letsAlone  (post : Int32 → Mem → Prop) (p1 : Int32) (σ : Mem) : Prop := (vp_in p1 30 ∧ ((sw_out ((σ) 4 p1.toNatClampNeg) 3 → post 255 (σ)) ∧ (((σ) 4 p1.toNatClampNeg) = nI 0 → (vp_in p1 30 ∧ post ((σ) 7 p1.toNatClampNeg) (σ))) ∧ (((σ) 4 p1.toNatClampNeg) = nI 1 → (vp_in p1 30 ∧ post (((255 : Int32) <<< (((σ) 7 p1.toNatClampNeg) &&& 31)) &&& 255) (σ))) ∧ (((σ) 4 p1.toNatClampNeg) = nI 2 → (vp_in p1 30 ∧ post ((255 : Int32) >>> (((7 : Int32) - ((σ) 7 p1.toNatClampNeg)) &&& 31)) (σ)))))
abbrev rm_X2_letsAlone : Room := { frames := 0, cells := 0, slots := 0, locals := 0 }
abbrev wq_X2_letsAlone : List Cond := Cond.code yX2_letsAlone cX2_letsAlone 2 (some .int) :: wALL
set_option maxHeartbeats 4000000 in
set_option maxRecDepth 100000 in
theorem c_X2_letsAlone (l : Launch) (D : va_G) (k ad : Nat → Nat) {sz : Nat} {σ : Mem} {p1 : Int32} {post : Int32 → Mem → Prop} (hp : q_X2_letsAlone post p1 σ) : Met l yX2_letsAlone wq_X2_letsAlone rm_X2_letsAlone (va_Pc [.ref (ad 1), .int p1] (Pw D k (W5 k ad (σ)) sz)) (va_Qi post (fun u => Bw D (W5 k ad (σ)) sz (W5 k ad u)) (va_A (W5 k ad (σ)) sz)) 0 0 (va_A (W5 k ad (σ)) sz) := by
  refine fw_i (wf := fun u : Mem => W5 k ad u) (by decide) rfl (Nat.le_of_ble_eq_true rfl) ?_
  intro p e s m args below meth c A Q ls hC hP hD hl hret
  obtain ⟨⟨hx, hb, hml, hown, hts⟩, hG, hA⟩ := id hC
  have hK := hG.1
  have hS : va_S A s.heap s.heap [] := va_S.rf
  have hin_X2 : ∀ w ∈ u_ws RX2 TX2 11, w ∈ wq_X2_letsAlone := fun w h => List.mem_cons_of_mem _ (iU_X2 w h)
  have hf_18 := hts _ (List.mem_cons_of_mem _ A_16)
  have hf_27 := hts _ (List.mem_cons_of_mem _ A_81)
  have hl : lv_has ls 2 [(0, .ref (ad 1)), (1, .int p1)] := hl
  have hown : s.vm.findClass RX2 = some m.cls := hown
  unfold q_X2_letsAlone at hp
  refine lv_aload_n hx hb dX2_letsAlone_0 rfl (lv_at hl 0 rfl) ?_
  refine va_get (D := D) (ci := 6) (C := RX2) (T := TX2) (N := 11) hx hb hts hin_X2 hown hK hP 1 rfl rfl 2 (by decide) hf_18 (fun _ h9 => h9) rfl dX2_letsAlone_1 ?_
  refine lv_iload_n hx hb dX2_letsAlone_4 rfl (lv_at hl 1 rfl) ?_
  obtain ⟨h1, hp⟩ := hp
  refine va_iald hx hb hK hP 4 0 rfl rfl h1 dX2_letsAlone_5 ?_
  rcases sw_in ((σ) 4 p1.toNatClampNeg) 3 (by decide) with c2 | ⟨j3, hj3, ej3⟩
  · have hp := hp.1 c2
    refine lv_tableOut (tgt := 68) hx hb dX2_letsAlone_6 (sw_of c2) (by decide) ?_
    refine lv_sipush (v := 255) hx hb dX2_letsAlone_68 (by decide) ?_
    exact hret 255 (σ) _ _ _ _ _ _ dX2_letsAlone_71 rfl hP hD hS (Nat.le_of_ble_eq_true rfl) (Nat.le_of_ble_eq_true rfl) hp
  · have hp := hp.2
    rcases (show j3 = 0 ∨ j3 = 1 ∨ j3 = 2 by omega) with rfl | rfl | rfl
    · have hp := hp.1 ej3
      refine lv_tableIn (tgt := 32) (off := 26) hx hb dX2_letsAlone_6 (by rw [ej3]; decide) (by rw [ej3]; decide) (by rw [ej3]; rfl) (by decide) ?_
      refine lv_aload_n hx hb dX2_letsAlone_32 rfl (lv_at hl 0 rfl) ?_
      refine va_get (D := D) (ci := 6) (C := RX2) (T := TX2) (N := 11) hx hb hts hin_X2 hown hK hP 1 rfl rfl 5 (by decide) hf_27 (fun _ h9 => h9) rfl dX2_letsAlone_33 ?_
      refine lv_iload_n hx hb dX2_letsAlone_36 rfl (lv_at hl 1 rfl) ?_
      obtain ⟨h4, hp⟩ := hp
      refine va_iald hx hb hK hP 7 0 rfl rfl h4 dX2_letsAlone_37 ?_
      exact hret ((σ) 7 p1.toNatClampNeg) (σ) _ _ _ _ _ _ dX2_letsAlone_38 rfl hP hD hS (Nat.le_of_ble_eq_true rfl) (Nat.le_of_ble_eq_true rfl) hp
    · have hp := hp.2.1 ej3
      refine lv_tableIn (tgt := 39) (off := 33) hx hb dX2_letsAlone_6 (by rw [ej3]; decide) (by rw [ej3]; decide) (by rw [ej3]; rfl) (by decide) ?_
      refine lv_sipush (v := 255) hx hb dX2_letsAlone_39 (by decide) ?_
      refine lv_aload_n hx hb dX2_letsAlone_42 rfl (lv_at hl 0 rfl) ?_
      refine va_get (D := D) (ci := 6) (C := RX2) (T := TX2) (N := 11) hx hb hts hin_X2 hown hK hP 1 rfl rfl 5 (by decide) hf_27 (fun _ h9 => h9) rfl dX2_letsAlone_43 ?_
      refine lv_iload_n hx hb dX2_letsAlone_46 rfl (lv_at hl 1 rfl) ?_
      obtain ⟨h5, hp⟩ := hp
      refine va_iald hx hb hK hP 7 0 rfl rfl h5 dX2_letsAlone_47 ?_
      refine lv_ishl hx hb dX2_letsAlone_48 ?_
      refine lv_sipush (v := 255) hx hb dX2_letsAlone_49 (by decide) ?_
      refine lv_iand hx hb dX2_letsAlone_52 ?_
      exact hret (((255 : Int32) <<< (((σ) 7 p1.toNatClampNeg) &&& 31)) &&& 255) (σ) _ _ _ _ _ _ dX2_letsAlone_53 rfl hP hD hS (Nat.le_of_ble_eq_true rfl) (Nat.le_of_ble_eq_true rfl) hp
    · have hp := hp.2.2 ej3
      refine lv_tableIn (tgt := 54) (off := 48) hx hb dX2_letsAlone_6 (by rw [ej3]; decide) (by rw [ej3]; decide) (by rw [ej3]; rfl) (by decide) ?_
      refine lv_sipush (v := 255) hx hb dX2_letsAlone_54 (by decide) ?_
      refine lv_bipush (v := 7) hx hb dX2_letsAlone_57 (by decide) ?_
      refine lv_aload_n hx hb dX2_letsAlone_59 rfl (lv_at hl 0 rfl) ?_
      refine va_get (D := D) (ci := 6) (C := RX2) (T := TX2) (N := 11) hx hb hts hin_X2 hown hK hP 1 rfl rfl 5 (by decide) hf_27 (fun _ h9 => h9) rfl dX2_letsAlone_60 ?_
      refine lv_iload_n hx hb dX2_letsAlone_63 rfl (lv_at hl 1 rfl) ?_
      obtain ⟨h6, hp⟩ := hp
      refine va_iald hx hb hK hP 7 0 rfl rfl h6 dX2_letsAlone_64 ?_
      refine lv_isub hx hb dX2_letsAlone_65 ?_
      refine lv_ishr hx hb dX2_letsAlone_66 ?_
      exact hret ((255 : Int32) >>> (((7 : Int32) - ((σ) 7 p1.toNatClampNeg)) &&& 31)) (σ) _ _ _ _ _ _ dX2_letsAlone_67 rfl hP hD hS (Nat.le_of_ble_eq_true rfl) (Nat.le_of_ble_eq_true rfl) hp
def q_X2_letsByOther_83  (post : Int32 → Mem → Prop)  (s0 : Int32) (σ : Mem) : Prop := post (s0 &&& 255) (σ)
def q_X2_letsByOther_64  (post : Int32 → Mem → Prop)  (s0 : Int32) (x3 : Int32) (σ : Mem) : Prop := ((s0 < 0 → (q_X2_letsByOther_83 post) (x3 >>> ((-s0) &&& 31)) (σ)) ∧ (¬ (s0 < 0) → (q_X2_letsByOther_83 post) (x3 <<< (s0 &&& 31)) (σ)))
def q_X2_letsByOther_43  (post : Int32 → Mem → Prop)  (s0 : Int32) (σ : Mem) : Prop := post s0 (σ)
def q_X2_letsByOther_23  (post : Int32 → Mem → Prop)  (s0 : Int32) (x3 : Int32) (σ : Mem) : Prop := ((s0 = 0 → (q_X2_letsByOther_43 post) 255 (σ)) ∧ (¬ (s0 = 0) → (q_X2_letsByOther_43 post) ((255 : Int32) &&& (x3 ^^^ (-1))) (σ)))
def q_X2_letsByOther  (post : Int32 → Mem → Prop) (p1 : Int32) (p2 : Int32) (p3 : Int32) (σ : Mem) : Prop := (vp_in p1 30 ∧ ((((σ) 4 p1.toNatClampNeg) ≠ 4 → ((p2 = 0 → (vp_in p1 30 ∧ (q_X2_letsByOther_64 post) ((σ) 8 p1.toNatClampNeg) p3 (σ))) ∧ (¬ (p2 = 0) → (vp_in p1 30 ∧ (q_X2_letsByOther_64 post) (-((σ) 8 p1.toNatClampNeg)) p3 (σ))))) ∧ (((σ) 4 p1.toNatClampNeg) = 4 → (((p3 &&& (p3 - 1)) ≠ 0 → (q_X2_letsByOther_23 post) 0 p3 (σ)) ∧ ((p3 &&& (p3 - 1)) = 0 → (q_X2_letsByOther_23 post) 1 p3 (σ))))))
abbrev rm_X2_letsByOther : Room := { frames := 0, cells := 0, slots := 0, locals := 0 }
abbrev wq_X2_letsByOther : List Cond := Cond.code yX2_letsByOther cX2_letsByOther 5 (some .int) :: wALL
set_option maxHeartbeats 4000000 in
set_option maxRecDepth 100000 in
theorem c_X2_letsByOther (l : Launch) (D : va_G) (k ad : Nat → Nat) {sz : Nat} {σ : Mem} {p1 : Int32} {p2 : Int32} {p3 : Int32} {post : Int32 → Mem → Prop} (hp : q_X2_letsByOther post p1 p2 p3 σ) : Met l yX2_letsByOther wq_X2_letsByOther rm_X2_letsByOther (va_Pc [.ref (ad 1), .int p1, .int p2, .int p3] (Pw D k (W5 k ad (σ)) sz)) (va_Qi post (fun u => Bw D (W5 k ad (σ)) sz (W5 k ad u)) (va_A (W5 k ad (σ)) sz)) 0 0 (va_A (W5 k ad (σ)) sz) := by
  refine fw_i (wf := fun u : Mem => W5 k ad u) (by decide) rfl (Nat.le_of_ble_eq_true rfl) ?_
  intro p e s m args below meth c A Q ls hC hP hD hl hret
  obtain ⟨⟨hx, hb, hml, hown, hts⟩, hG, hA⟩ := id hC
  have hK := hG.1
  have hS : va_S A s.heap s.heap [] := va_S.rf
  have hin_X2 : ∀ w ∈ u_ws RX2 TX2 11, w ∈ wq_X2_letsByOther := fun w h => List.mem_cons_of_mem _ (iU_X2 w h)
  have hf_18 := hts _ (List.mem_cons_of_mem _ A_16)
  have hf_30 := hts _ (List.mem_cons_of_mem _ A_18)
  have hl : lv_has ls 5 [(0, .ref (ad 1)), (1, .int p1), (2, .int p2), (3, .int p3)] := hl
  have hown : s.vm.findClass RX2 = some m.cls := hown
  unfold q_X2_letsByOther at hp
  have B_83 : ∀ (s0 : Int32) (σ : Mem) (H : Heap) (locs : List Loc) (ls : Array Slot), va_P D vwCl (W5 k ad (σ)) H → va_D A (W5 k ad (σ)) → va_S A s.heap H locs → lv_has ls 5 [] → (q_X2_letsByOther_83 post) s0 σ → W p l e rm_X2_letsByOther s m args below meth c H locs 0 0 Q (F0 m 83 ls [.int s0]) := by
    intro s0 σ H locs ls hP hD hS hl hp
    unfold q_X2_letsByOther_83 at hp
    refine lv_sipush (v := 255) hx hb dX2_letsByOther_83 (by decide) ?_
    refine lv_iand hx hb dX2_letsByOther_86 ?_
    exact hret (s0 &&& 255) (σ) _ _ _ _ _ _ dX2_letsByOther_87 rfl hP hD hS (Nat.le_of_ble_eq_true rfl) (Nat.le_of_ble_eq_true rfl) hp
  have B_64 : ∀ (s0 : Int32) (x3 : Int32) (σ : Mem) (H : Heap) (locs : List Loc) (ls : Array Slot), va_P D vwCl (W5 k ad (σ)) H → va_D A (W5 k ad (σ)) → va_S A s.heap H locs → lv_has ls 5 [(3, .int x3)] → (q_X2_letsByOther_64 post) s0 x3 σ → W p l e rm_X2_letsByOther s m args below meth c H locs 0 0 Q (F0 m 64 ls [.int s0]) := by
    intro s0 x3 σ H locs ls hP hD hS hl hp
    unfold q_X2_letsByOther_64 at hp
    refine lv_istore (lv' := [(4, .int s0), (3, .int x3)]) hx hb dX2_letsByOther_64 hl (by decide) rfl (fun ls hl => ?_)
    refine lv_iload hx hb dX2_letsByOther_66 (lv_at hl 0 rfl) ?_
    refine lv_if_lt (tgt := 78) hx hb dX2_letsByOther_68 (by decide) (fun c30001 => ?_) (fun c30001 => ?_)
    · have hp := hp.1 c30001
      refine lv_iload_n hx hb dX2_letsByOther_78 rfl (lv_at hl 1 rfl) ?_
      refine lv_iload hx hb dX2_letsByOther_79 (lv_at hl 0 rfl) ?_
      refine lv_ineg hx hb dX2_letsByOther_81 ?_
      refine lv_ishr hx hb dX2_letsByOther_82 ?_
      exact B_83 (x3 >>> ((-s0) &&& 31)) (σ) _ _ _  hP hD hS (lv_sub hl [] rfl) hp
    · have hp := hp.2 c30001
      refine lv_iload_n hx hb dX2_letsByOther_71 rfl (lv_at hl 1 rfl) ?_
      refine lv_iload hx hb dX2_letsByOther_72 (lv_at hl 0 rfl) ?_
      refine lv_ishl hx hb dX2_letsByOther_74 ?_
      refine lv_goto (tgt := 83) hx hb dX2_letsByOther_75 (by decide) ?_
      exact B_83 (x3 <<< (s0 &&& 31)) (σ) _ _ _  hP hD hS (lv_sub hl [] rfl) hp
  have B_43 : ∀ (s0 : Int32) (σ : Mem) (H : Heap) (locs : List Loc) (ls : Array Slot), va_P D vwCl (W5 k ad (σ)) H → va_D A (W5 k ad (σ)) → va_S A s.heap H locs → lv_has ls 5 [] → (q_X2_letsByOther_43 post) s0 σ → W p l e rm_X2_letsByOther s m args below meth c H locs 0 0 Q (F0 m 43 ls [.int s0]) := by
    intro s0 σ H locs ls hP hD hS hl hp
    unfold q_X2_letsByOther_43 at hp
    exact hret s0 (σ) _ _ _ _ _ _ dX2_letsByOther_43 rfl hP hD hS (Nat.le_of_ble_eq_true rfl) (Nat.le_of_ble_eq_true rfl) hp
  have B_23 : ∀ (s0 : Int32) (x3 : Int32) (σ : Mem) (H : Heap) (locs : List Loc) (ls : Array Slot), va_P D vwCl (W5 k ad (σ)) H → va_D A (W5 k ad (σ)) → va_S A s.heap H locs → lv_has ls 5 [(3, .int x3)] → (q_X2_letsByOther_23 post) s0 x3 σ → W p l e rm_X2_letsByOther s m args below meth c H locs 0 0 Q (F0 m 23 ls [.int s0]) := by
    intro s0 x3 σ H locs ls hP hD hS hl hp
    unfold q_X2_letsByOther_23 at hp
    refine lv_istore (lv' := [(4, .int s0), (3, .int x3)]) hx hb dX2_letsByOther_23 hl (by decide) rfl (fun ls hl => ?_)
    refine lv_iload hx hb dX2_letsByOther_25 (lv_at hl 0 rfl) ?_
    refine lv_if_eq (tgt := 40) hx hb dX2_letsByOther_27 (by decide) (fun c10001 => ?_) (fun c10001 => ?_)
    · have hp := hp.1 c10001
      refine lv_sipush (v := 255) hx hb dX2_letsByOther_40 (by decide) ?_
      exact B_43 255 (σ) _ _ _  hP hD hS (lv_sub hl [] rfl) hp
    · have hp := hp.2 c10001
      refine lv_sipush (v := 255) hx hb dX2_letsByOther_30 (by decide) ?_
      refine lv_iload_n hx hb dX2_letsByOther_33 rfl (lv_at hl 1 rfl) ?_
      refine lv_iconst (v := (-1)) hx hb dX2_letsByOther_34 (by decide) ?_
      refine lv_ixor hx hb dX2_letsByOther_35 ?_
      refine lv_iand hx hb dX2_letsByOther_36 ?_
      refine lv_goto (tgt := 43) hx hb dX2_letsByOther_37 (by decide) ?_
      exact B_43 ((255 : Int32) &&& (x3 ^^^ (-1))) (σ) _ _ _  hP hD hS (lv_sub hl [] rfl) hp
  refine lv_aload_n hx hb dX2_letsByOther_0 rfl (lv_at hl 0 rfl) ?_
  refine va_get (D := D) (ci := 6) (C := RX2) (T := TX2) (N := 11) hx hb hts hin_X2 hown hK hP 1 rfl rfl 2 (by decide) hf_18 (fun _ h9 => h9) rfl dX2_letsByOther_1 ?_
  refine lv_iload_n hx hb dX2_letsByOther_4 rfl (lv_at hl 1 rfl) ?_
  obtain ⟨h1, hp⟩ := hp
  refine va_iald hx hb hK hP 4 0 rfl rfl h1 dX2_letsByOther_5 ?_
  refine lv_iconst (v := 4) hx hb dX2_letsByOther_6 (by decide) ?_
  refine lv_icmp_ne (tgt := 44) hx hb dX2_letsByOther_7 (by decide) (fun c2 => ?_) (fun c2 => ?_)
  · have hp := hp.1 c2
    refine lv_iload_n hx hb dX2_letsByOther_44 rfl (lv_at hl 2 rfl) ?_
    refine lv_if_eq (tgt := 58) hx hb dX2_letsByOther_45 (by decide) (fun c3 => ?_) (fun c3 => ?_)
    · have hp := hp.1 c3
      refine lv_aload_n hx hb dX2_letsByOther_58 rfl (lv_at hl 0 rfl) ?_
      refine va_get (D := D) (ci := 6) (C := RX2) (T := TX2) (N := 11) hx hb hts hin_X2 hown hK hP 1 rfl rfl 6 (by decide) hf_30 (fun _ h9 => h9) rfl dX2_letsByOther_59 ?_
      refine lv_iload_n hx hb dX2_letsByOther_62 rfl (lv_at hl 1 rfl) ?_
      obtain ⟨h4, hp⟩ := hp
      refine va_iald hx hb hK hP 8 0 rfl rfl h4 dX2_letsByOther_63 ?_
      exact B_64 ((σ) 8 p1.toNatClampNeg) p3 (σ) _ _ _  hP hD hS (lv_sub hl [3] rfl) hp
    · have hp := hp.2 c3
      refine lv_aload_n hx hb dX2_letsByOther_48 rfl (lv_at hl 0 rfl) ?_
      refine va_get (D := D) (ci := 6) (C := RX2) (T := TX2) (N := 11) hx hb hts hin_X2 hown hK hP 1 rfl rfl 6 (by decide) hf_30 (fun _ h9 => h9) rfl dX2_letsByOther_49 ?_
      refine lv_iload_n hx hb dX2_letsByOther_52 rfl (lv_at hl 1 rfl) ?_
      obtain ⟨h5, hp⟩ := hp
      refine va_iald hx hb hK hP 8 0 rfl rfl h5 dX2_letsByOther_53 ?_
      refine lv_ineg hx hb dX2_letsByOther_54 ?_
      refine lv_goto (tgt := 64) hx hb dX2_letsByOther_55 (by decide) ?_
      exact B_64 (-((σ) 8 p1.toNatClampNeg)) p3 (σ) _ _ _  hP hD hS (lv_sub hl [3] rfl) hp
  · have hp := hp.2 c2
    refine lv_iload_n hx hb dX2_letsByOther_10 rfl (lv_at hl 3 rfl) ?_
    refine lv_iload_n hx hb dX2_letsByOther_11 rfl (lv_at hl 3 rfl) ?_
    refine lv_iconst (v := 1) hx hb dX2_letsByOther_12 (by decide) ?_
    refine lv_isub hx hb dX2_letsByOther_13 ?_
    refine lv_iand hx hb dX2_letsByOther_14 ?_
    refine lv_if_ne (tgt := 22) hx hb dX2_letsByOther_15 (by decide) (fun c6 => ?_) (fun c6 => ?_)
    · have hp := hp.1 c6
      refine lv_iconst (v := 0) hx hb dX2_letsByOther_22 (by decide) ?_
      exact B_23 0 p3 (σ) _ _ _  hP hD hS (lv_sub hl [3] rfl) hp
    · have hp := hp.2 c6
      refine lv_iconst (v := 1) hx hb dX2_letsByOther_18 (by decide) ?_
      refine lv_goto (tgt := 23) hx hb dX2_letsByOther_19 (by decide) ?_
      exact B_23 1 p3 (σ) _ _ _  hP hD hS (lv_sub hl [3] rfl) hp
def q_X2_makeField  (post : Int32 → Mem → Prop) (p1 : Int32) (σ : Mem) : Prop := ((((σ) 1 9) < 5 → (vp_in ((σ) 1 9) 5 ∧ (∀ σ3 : Mem, σ3 = mst (σ) 2 (((σ) 1 9).toNatClampNeg) p1 → (vp_in ((σ3) 1 9) 5 ∧ (∀ σ5 : Mem, σ5 = mst (σ3) 3 (((σ3) 1 9).toNatClampNeg) 1 → (∀ σ6 : Mem, σ6 = mst (σ5) 1 9 (((σ5) 1 9) + 1) → post (((σ6) 1 9) - 1) (σ6))))))) ∧ (¬ (((σ) 1 9) < 5) → post (-1) (σ)))
abbrev rm_X2_makeField : Room := { frames := 0, cells := 0, slots := 0, locals := 0 }
abbrev wq_X2_makeField : List Cond := Cond.code yX2_makeField cX2_makeField 2 (some .int) :: wALL
set_option maxHeartbeats 4000000 in
set_option maxRecDepth 100000 in
theorem c_X2_makeField (l : Launch) (D : va_G) (k ad : Nat → Nat) {sz : Nat} {σ : Mem} {p1 : Int32} {post : Int32 → Mem → Prop} (hp : q_X2_makeField post p1 σ) : Met l yX2_makeField wq_X2_makeField rm_X2_makeField (va_Pc [.ref (ad 1), .int p1] (Pw D k (W5 k ad (σ)) sz)) (va_Qi post (fun u => Bw D (W5 k ad (σ)) sz (W5 k ad u)) (va_A (W5 k ad (σ)) sz)) 0 0 (va_A (W5 k ad (σ)) sz) := by
  refine fw_i (wf := fun u : Mem => W5 k ad u) (by decide) rfl (Nat.le_of_ble_eq_true rfl) ?_
  intro p e s m args below meth c A Q ls hC hP hD hl hret
  obtain ⟨⟨hx, hb, hml, hown, hts⟩, hG, hA⟩ := id hC
  have hK := hG.1
  have hS : va_S A s.heap s.heap [] := va_S.rf
  have hin_X2 : ∀ w ∈ u_ws RX2 TX2 11, w ∈ wq_X2_makeField := fun w h => List.mem_cons_of_mem _ (iU_X2 w h)
  have hf_40 := hts _ (List.mem_cons_of_mem _ A_86)
  have hf_9 := hts _ (List.mem_cons_of_mem _ A_77)
  have hf_15 := hts _ (List.mem_cons_of_mem _ A_78)
  have hl : lv_has ls 2 [(0, .ref (ad 1)), (1, .int p1)] := hl
  have hown : s.vm.findClass RX2 = some m.cls := hown
  unfold q_X2_makeField at hp
  refine lv_aload_n hx hb dX2_makeField_0 rfl (lv_at hl 0 rfl) ?_
  refine va_get (D := D) (ci := 6) (C := RX2) (T := TX2) (N := 11) hx hb hts hin_X2 hown hK hP 1 rfl rfl 9 (by decide) hf_40 (fun _ h9 => h9) rfl dX2_makeField_1 ?_
  refine lv_iconst (v := 5) hx hb dX2_makeField_4 (by decide) ?_
  refine lv_icmp_lt (tgt := 10) hx hb dX2_makeField_5 (by decide) (fun c1 => ?_) (fun c1 => ?_)
  · have hp := hp.1 c1
    refine lv_aload_n hx hb dX2_makeField_10 rfl (lv_at hl 0 rfl) ?_
    refine va_get (D := D) (ci := 6) (C := RX2) (T := TX2) (N := 11) hx hb hts hin_X2 hown hK hP 1 rfl rfl 0 (by decide) hf_9 (fun _ h9 => h9) rfl dX2_makeField_11 ?_
    refine lv_aload_n hx hb dX2_makeField_14 rfl (lv_at hl 0 rfl) ?_
    refine va_get (D := D) (ci := 6) (C := RX2) (T := TX2) (N := 11) hx hb hts hin_X2 hown hK hP 1 rfl rfl 9 (by decide) hf_40 (fun _ h9 => h9) rfl dX2_makeField_15 ?_
    refine lv_iload_n hx hb dX2_makeField_18 rfl (lv_at hl 1 rfl) ?_
    obtain ⟨h2, hp⟩ := hp
    refine va_iast hx hb hK hP hD hS 2 0 rfl rfl h2 dX2_makeField_19 (fun H locs hP hD hS => ?_)
    obtain ⟨σ3, eσ3⟩ : ∃ z : Mem, z = mst (σ) 2 (((σ) 1 9).toNatClampNeg) p1 := ⟨_, rfl⟩
    have hp := hp σ3 eσ3
    have hP : va_P D vwCl (W5 k ad (σ3)) H := by rw [eσ3]; exact hP
    have hD : va_D A (W5 k ad (σ3)) := by rw [eσ3]; exact hD
    refine lv_aload_n hx hb dX2_makeField_20 rfl (lv_at hl 0 rfl) ?_
    refine va_get (D := D) (ci := 6) (C := RX2) (T := TX2) (N := 11) hx hb hts hin_X2 hown hK hP 1 rfl rfl 1 (by decide) hf_15 (fun _ h9 => h9) rfl dX2_makeField_21 ?_
    refine lv_aload_n hx hb dX2_makeField_24 rfl (lv_at hl 0 rfl) ?_
    refine va_get (D := D) (ci := 6) (C := RX2) (T := TX2) (N := 11) hx hb hts hin_X2 hown hK hP 1 rfl rfl 9 (by decide) hf_40 (fun _ h9 => h9) rfl dX2_makeField_25 ?_
    refine lv_iconst (v := 1) hx hb dX2_makeField_28 (by decide) ?_
    obtain ⟨h4, hp⟩ := hp
    refine va_iast hx hb hK hP hD hS 3 0 rfl rfl h4 dX2_makeField_29 (fun H locs hP hD hS => ?_)
    obtain ⟨σ5, eσ5⟩ : ∃ z : Mem, z = mst (σ3) 3 (((σ3) 1 9).toNatClampNeg) 1 := ⟨_, rfl⟩
    have hp := hp σ5 eσ5
    have hP : va_P D vwCl (W5 k ad (σ5)) H := by rw [eσ5]; exact hP
    have hD : va_D A (W5 k ad (σ5)) := by rw [eσ5]; exact hD
    refine lv_aload_n hx hb dX2_makeField_30 rfl (lv_at hl 0 rfl) ?_
    refine lv_dup hx hb dX2_makeField_31 rfl ?_
    refine va_get (D := D) (ci := 6) (C := RX2) (T := TX2) (N := 11) hx hb hts hin_X2 hown hK hP 1 rfl rfl 9 (by decide) hf_40 (fun _ h9 => h9) rfl dX2_makeField_32 ?_
    refine lv_iconst (v := 1) hx hb dX2_makeField_35 (by decide) ?_
    refine lv_iadd hx hb dX2_makeField_36 ?_
    refine va_put (D := D) (ci := 6) (v := .int (((σ5) 1 9) + 1)) (ty := .int) (C := RX2) (T := TX2) (N := 11) hx hb hts hin_X2 tyX2 tyX2_ok nmX2 hown hK hP hD hS 1 rfl rfl 9 (by decide) hf_40 (fun _ h9 => h9) rfl (by decide +kernel) rfl rfl (Nat.le_of_ble_eq_true rfl) dX2_makeField_37 (fun H locs hP hD hS => ?_)
    obtain ⟨σ6, eσ6⟩ : ∃ z : Mem, z = mst (σ5) 1 9 (((σ5) 1 9) + 1) := ⟨_, rfl⟩
    have hp := hp σ6 eσ6
    have hP : va_P D vwCl (W5 k ad (σ6)) H := by rw [eσ6]; exact hP
    have hD : va_D A (W5 k ad (σ6)) := by rw [eσ6]; exact hD
    refine lv_aload_n hx hb dX2_makeField_40 rfl (lv_at hl 0 rfl) ?_
    refine va_get (D := D) (ci := 6) (C := RX2) (T := TX2) (N := 11) hx hb hts hin_X2 hown hK hP 1 rfl rfl 9 (by decide) hf_40 (fun _ h9 => h9) rfl dX2_makeField_41 ?_
    refine lv_iconst (v := 1) hx hb dX2_makeField_44 (by decide) ?_
    refine lv_isub hx hb dX2_makeField_45 ?_
    exact hret (((σ6) 1 9) - 1) (σ6) _ _ _ _ _ _ dX2_makeField_46 rfl hP hD hS (Nat.le_of_ble_eq_true rfl) (Nat.le_of_ble_eq_true rfl) hp
  · have hp := hp.2 c1
    refine lv_iconst (v := (-1)) hx hb dX2_makeField_8 (by decide) ?_
    exact hret (-1) (σ) _ _ _ _ _ _ dX2_makeField_9 rfl hP hD hS (Nat.le_of_ble_eq_true rfl) (Nat.le_of_ble_eq_true rfl) hp
def q_X2_makeLine  (post : Int32 → Mem → Prop) (p1 : Int32) (p2 : Int32) (p3 : Int32) (p4 : Int32) (p5 : Int32) (σ : Mem) : Prop := ((((σ) 1 10) < 30 → (vp_in ((σ) 1 10) 30 ∧ (∀ σ3 : Mem, σ3 = mst (σ) 4 (((σ) 1 10).toNatClampNeg) p1 → (vp_in ((σ3) 1 10) 30 ∧ (∀ σ5 : Mem, σ5 = mst (σ3) 5 (((σ3) 1 10).toNatClampNeg) p2 → (vp_in ((σ5) 1 10) 30 ∧ (∀ σ7 : Mem, σ7 = mst (σ5) 6 (((σ5) 1 10).toNatClampNeg) p3 → (vp_in ((σ7) 1 10) 30 ∧ (∀ σ9 : Mem, σ9 = mst (σ7) 7 (((σ7) 1 10).toNatClampNeg) p4 → (vp_in ((σ9) 1 10) 30 ∧ (∀ σ11 : Mem, σ11 = mst (σ9) 8 (((σ9) 1 10).toNatClampNeg) p5 → (∀ σ12 : Mem, σ12 = mst (σ11) 1 10 (((σ11) 1 10) + 1) → post (((σ12) 1 10) - 1) (σ12))))))))))))) ∧ (¬ (((σ) 1 10) < 30) → post (-1) (σ)))
abbrev rm_X2_makeLine : Room := { frames := 0, cells := 0, slots := 0, locals := 0 }
abbrev wq_X2_makeLine : List Cond := Cond.code yX2_makeLine cX2_makeLine 6 (some .int) :: wALL
set_option maxHeartbeats 4000000 in
set_option maxRecDepth 100000 in
theorem c_X2_makeLine (l : Launch) (D : va_G) (k ad : Nat → Nat) {sz : Nat} {σ : Mem} {p1 : Int32} {p2 : Int32} {p3 : Int32} {p4 : Int32} {p5 : Int32} {post : Int32 → Mem → Prop} (hp : q_X2_makeLine post p1 p2 p3 p4 p5 σ) : Met l yX2_makeLine wq_X2_makeLine rm_X2_makeLine (va_Pc [.ref (ad 1), .int p1, .int p2, .int p3, .int p4, .int p5] (Pw D k (W5 k ad (σ)) sz)) (va_Qi post (fun u => Bw D (W5 k ad (σ)) sz (W5 k ad u)) (va_A (W5 k ad (σ)) sz)) 0 0 (va_A (W5 k ad (σ)) sz) := by
  refine fw_i (wf := fun u : Mem => W5 k ad u) (by decide) rfl (Nat.le_of_ble_eq_true rfl) ?_
  intro p e s m args below meth c A Q ls hC hP hD hl hret
  obtain ⟨⟨hx, hb, hml, hown, hts⟩, hG, hA⟩ := id hC
  have hK := hG.1
  have hS : va_S A s.heap s.heap [] := va_S.rf
  have hin_X2 : ∀ w ∈ u_ws RX2 TX2 11, w ∈ wq_X2_makeLine := fun w h => List.mem_cons_of_mem _ (iU_X2 w h)
  have hf_44 := hts _ (List.mem_cons_of_mem _ A_88)
  have hf_18 := hts _ (List.mem_cons_of_mem _ A_16)
  have hf_21 := hts _ (List.mem_cons_of_mem _ A_79)
  have hf_24 := hts _ (List.mem_cons_of_mem _ A_80)
  have hf_27 := hts _ (List.mem_cons_of_mem _ A_81)
  have hf_30 := hts _ (List.mem_cons_of_mem _ A_18)
  have hl : lv_has ls 6 [(0, .ref (ad 1)), (1, .int p1), (2, .int p2), (3, .int p3), (4, .int p4), (5, .int p5)] := hl
  have hown : s.vm.findClass RX2 = some m.cls := hown
  unfold q_X2_makeLine at hp
  refine lv_aload_n hx hb dX2_makeLine_0 rfl (lv_at hl 0 rfl) ?_
  refine va_get (D := D) (ci := 6) (C := RX2) (T := TX2) (N := 11) hx hb hts hin_X2 hown hK hP 1 rfl rfl 10 (by decide) hf_44 (fun _ h9 => h9) rfl dX2_makeLine_1 ?_
  refine lv_bipush (v := 30) hx hb dX2_makeLine_4 (by decide) ?_
  refine lv_icmp_lt (tgt := 11) hx hb dX2_makeLine_6 (by decide) (fun c1 => ?_) (fun c1 => ?_)
  · have hp := hp.1 c1
    refine lv_aload_n hx hb dX2_makeLine_11 rfl (lv_at hl 0 rfl) ?_
    refine va_get (D := D) (ci := 6) (C := RX2) (T := TX2) (N := 11) hx hb hts hin_X2 hown hK hP 1 rfl rfl 2 (by decide) hf_18 (fun _ h9 => h9) rfl dX2_makeLine_12 ?_
    refine lv_aload_n hx hb dX2_makeLine_15 rfl (lv_at hl 0 rfl) ?_
    refine va_get (D := D) (ci := 6) (C := RX2) (T := TX2) (N := 11) hx hb hts hin_X2 hown hK hP 1 rfl rfl 10 (by decide) hf_44 (fun _ h9 => h9) rfl dX2_makeLine_16 ?_
    refine lv_iload_n hx hb dX2_makeLine_19 rfl (lv_at hl 1 rfl) ?_
    obtain ⟨h2, hp⟩ := hp
    refine va_iast hx hb hK hP hD hS 4 0 rfl rfl h2 dX2_makeLine_20 (fun H locs hP hD hS => ?_)
    obtain ⟨σ3, eσ3⟩ : ∃ z : Mem, z = mst (σ) 4 (((σ) 1 10).toNatClampNeg) p1 := ⟨_, rfl⟩
    have hp := hp σ3 eσ3
    have hP : va_P D vwCl (W5 k ad (σ3)) H := by rw [eσ3]; exact hP
    have hD : va_D A (W5 k ad (σ3)) := by rw [eσ3]; exact hD
    refine lv_aload_n hx hb dX2_makeLine_21 rfl (lv_at hl 0 rfl) ?_
    refine va_get (D := D) (ci := 6) (C := RX2) (T := TX2) (N := 11) hx hb hts hin_X2 hown hK hP 1 rfl rfl 3 (by decide) hf_21 (fun _ h9 => h9) rfl dX2_makeLine_22 ?_
    refine lv_aload_n hx hb dX2_makeLine_25 rfl (lv_at hl 0 rfl) ?_
    refine va_get (D := D) (ci := 6) (C := RX2) (T := TX2) (N := 11) hx hb hts hin_X2 hown hK hP 1 rfl rfl 10 (by decide) hf_44 (fun _ h9 => h9) rfl dX2_makeLine_26 ?_
    refine lv_iload_n hx hb dX2_makeLine_29 rfl (lv_at hl 2 rfl) ?_
    obtain ⟨h4, hp⟩ := hp
    refine va_iast hx hb hK hP hD hS 5 0 rfl rfl h4 dX2_makeLine_30 (fun H locs hP hD hS => ?_)
    obtain ⟨σ5, eσ5⟩ : ∃ z : Mem, z = mst (σ3) 5 (((σ3) 1 10).toNatClampNeg) p2 := ⟨_, rfl⟩
    have hp := hp σ5 eσ5
    have hP : va_P D vwCl (W5 k ad (σ5)) H := by rw [eσ5]; exact hP
    have hD : va_D A (W5 k ad (σ5)) := by rw [eσ5]; exact hD
    refine lv_aload_n hx hb dX2_makeLine_31 rfl (lv_at hl 0 rfl) ?_
    refine va_get (D := D) (ci := 6) (C := RX2) (T := TX2) (N := 11) hx hb hts hin_X2 hown hK hP 1 rfl rfl 4 (by decide) hf_24 (fun _ h9 => h9) rfl dX2_makeLine_32 ?_
    refine lv_aload_n hx hb dX2_makeLine_35 rfl (lv_at hl 0 rfl) ?_
    refine va_get (D := D) (ci := 6) (C := RX2) (T := TX2) (N := 11) hx hb hts hin_X2 hown hK hP 1 rfl rfl 10 (by decide) hf_44 (fun _ h9 => h9) rfl dX2_makeLine_36 ?_
    refine lv_iload_n hx hb dX2_makeLine_39 rfl (lv_at hl 3 rfl) ?_
    obtain ⟨h6, hp⟩ := hp
    refine va_iast hx hb hK hP hD hS 6 0 rfl rfl h6 dX2_makeLine_40 (fun H locs hP hD hS => ?_)
    obtain ⟨σ7, eσ7⟩ : ∃ z : Mem, z = mst (σ5) 6 (((σ5) 1 10).toNatClampNeg) p3 := ⟨_, rfl⟩
    have hp := hp σ7 eσ7
    have hP : va_P D vwCl (W5 k ad (σ7)) H := by rw [eσ7]; exact hP
    have hD : va_D A (W5 k ad (σ7)) := by rw [eσ7]; exact hD
    refine lv_aload_n hx hb dX2_makeLine_41 rfl (lv_at hl 0 rfl) ?_
    refine va_get (D := D) (ci := 6) (C := RX2) (T := TX2) (N := 11) hx hb hts hin_X2 hown hK hP 1 rfl rfl 5 (by decide) hf_27 (fun _ h9 => h9) rfl dX2_makeLine_42 ?_
    refine lv_aload_n hx hb dX2_makeLine_45 rfl (lv_at hl 0 rfl) ?_
    refine va_get (D := D) (ci := 6) (C := RX2) (T := TX2) (N := 11) hx hb hts hin_X2 hown hK hP 1 rfl rfl 10 (by decide) hf_44 (fun _ h9 => h9) rfl dX2_makeLine_46 ?_
    refine lv_iload hx hb dX2_makeLine_49 (lv_at hl 4 rfl) ?_
    obtain ⟨h8, hp⟩ := hp
    refine va_iast hx hb hK hP hD hS 7 0 rfl rfl h8 dX2_makeLine_51 (fun H locs hP hD hS => ?_)
    obtain ⟨σ9, eσ9⟩ : ∃ z : Mem, z = mst (σ7) 7 (((σ7) 1 10).toNatClampNeg) p4 := ⟨_, rfl⟩
    have hp := hp σ9 eσ9
    have hP : va_P D vwCl (W5 k ad (σ9)) H := by rw [eσ9]; exact hP
    have hD : va_D A (W5 k ad (σ9)) := by rw [eσ9]; exact hD
    refine lv_aload_n hx hb dX2_makeLine_52 rfl (lv_at hl 0 rfl) ?_
    refine va_get (D := D) (ci := 6) (C := RX2) (T := TX2) (N := 11) hx hb hts hin_X2 hown hK hP 1 rfl rfl 6 (by decide) hf_30 (fun _ h9 => h9) rfl dX2_makeLine_53 ?_
    refine lv_aload_n hx hb dX2_makeLine_56 rfl (lv_at hl 0 rfl) ?_
    refine va_get (D := D) (ci := 6) (C := RX2) (T := TX2) (N := 11) hx hb hts hin_X2 hown hK hP 1 rfl rfl 10 (by decide) hf_44 (fun _ h9 => h9) rfl dX2_makeLine_57 ?_
    refine lv_iload hx hb dX2_makeLine_60 (lv_at hl 5 rfl) ?_
    obtain ⟨h10, hp⟩ := hp
    refine va_iast hx hb hK hP hD hS 8 0 rfl rfl h10 dX2_makeLine_62 (fun H locs hP hD hS => ?_)
    obtain ⟨σ11, eσ11⟩ : ∃ z : Mem, z = mst (σ9) 8 (((σ9) 1 10).toNatClampNeg) p5 := ⟨_, rfl⟩
    have hp := hp σ11 eσ11
    have hP : va_P D vwCl (W5 k ad (σ11)) H := by rw [eσ11]; exact hP
    have hD : va_D A (W5 k ad (σ11)) := by rw [eσ11]; exact hD
    refine lv_aload_n hx hb dX2_makeLine_63 rfl (lv_at hl 0 rfl) ?_
    refine lv_dup hx hb dX2_makeLine_64 rfl ?_
    refine va_get (D := D) (ci := 6) (C := RX2) (T := TX2) (N := 11) hx hb hts hin_X2 hown hK hP 1 rfl rfl 10 (by decide) hf_44 (fun _ h9 => h9) rfl dX2_makeLine_65 ?_
    refine lv_iconst (v := 1) hx hb dX2_makeLine_68 (by decide) ?_
    refine lv_iadd hx hb dX2_makeLine_69 ?_
    refine va_put (D := D) (ci := 6) (v := .int (((σ11) 1 10) + 1)) (ty := .int) (C := RX2) (T := TX2) (N := 11) hx hb hts hin_X2 tyX2 tyX2_ok nmX2 hown hK hP hD hS 1 rfl rfl 10 (by decide) hf_44 (fun _ h9 => h9) rfl (by decide +kernel) rfl rfl (Nat.le_of_ble_eq_true rfl) dX2_makeLine_70 (fun H locs hP hD hS => ?_)
    obtain ⟨σ12, eσ12⟩ : ∃ z : Mem, z = mst (σ11) 1 10 (((σ11) 1 10) + 1) := ⟨_, rfl⟩
    have hp := hp σ12 eσ12
    have hP : va_P D vwCl (W5 k ad (σ12)) H := by rw [eσ12]; exact hP
    have hD : va_D A (W5 k ad (σ12)) := by rw [eσ12]; exact hD
    refine lv_aload_n hx hb dX2_makeLine_73 rfl (lv_at hl 0 rfl) ?_
    refine va_get (D := D) (ci := 6) (C := RX2) (T := TX2) (N := 11) hx hb hts hin_X2 hown hK hP 1 rfl rfl 10 (by decide) hf_44 (fun _ h9 => h9) rfl dX2_makeLine_74 ?_
    refine lv_iconst (v := 1) hx hb dX2_makeLine_77 (by decide) ?_
    refine lv_isub hx hb dX2_makeLine_78 ?_
    exact hret (((σ12) 1 10) - 1) (σ12) _ _ _ _ _ _ dX2_makeLine_79 rfl hP hD hS (Nat.le_of_ble_eq_true rfl) (Nat.le_of_ble_eq_true rfl) hp
  · have hp := hp.2 c1
    refine lv_iconst (v := (-1)) hx hb dX2_makeLine_9 (by decide) ?_
    exact hret (-1) (σ) _ _ _ _ _ _ dX2_makeLine_10 rfl hP hD hS (Nat.le_of_ble_eq_true rfl) (Nat.le_of_ble_eq_true rfl) hp
