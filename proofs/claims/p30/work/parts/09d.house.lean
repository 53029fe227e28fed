def q_L_house_94 (L : Nat) (xs : Nat → Int32) (post : Mem → Prop)  (σ : Mem) : Prop := post (σ)
def q_L_house_69 (L : Nat) (xs : Nat → Int32) (post : Mem → Prop) (kE_94 : Mem → Prop) (kc_69 : Int32 → Int32 → Mem → Prop) (x3 : Int32) (x4 : Int32) (σ : Mem) : Prop := ((x3 ≤ x4 → kE_94 (σ)) ∧ (¬ (x3 ≤ x4) → (¬ ((2 : Int32) + x4) < 0 ∧ (∀ r3003 : Int32, r3003 = cellv L xs ((2 : Int32) + x4) → (q_L_tell (fun (r3004 : Int32) (σ3005 : Mem) => (∀ v3006 : Int32, v3006 = x4 + 1 → kc_69 x3 v3006 (σ3005))) r3003 (σ))))))
def q_L_house_53 (L : Nat) (xs : Nat → Int32) (post : Mem → Prop)  (σ : Mem) : Prop := (¬ (1 : Int32) < 0 ∧ (∀ r2002 : Int32, r2002 = cellv L xs (1 : Int32) → (q_L_below (fun (r2003 : Int32) (σ2004 : Mem) => (∀ v2005 : Int32, v2005 = ((4 : Int32) + r2003) → (∃ n9 : Nat, n9 ≤ 13 ∧ lp_3 (q_L_house_69 L xs post (q_L_house_94 L xs post)) n9 v2005 0 (σ)))) r2002 9 (σ))))
def q_L_house_22 (L : Nat) (xs : Nat → Int32) (post : Mem → Prop) (kE_53 : Mem → Prop) (kc_22 : Int32 → Int32 → Mem → Prop) (x2 : Int32) (x3 : Int32) (σ : Mem) : Prop := ((x2 ≤ x3 → kE_53 (σ)) ∧ (¬ (x2 ≤ x3) → (¬ (0 : Int32) < 0 ∧ (∀ r1003 : Int32, r1003 = cellv L xs (0 : Int32) → (q_L_below (fun (r1004 : Int32) (σ1005 : Mem) => (q_X5_field (fun (r1006 : Int32) (σ1007 : Mem) => (∀ v1008 : Int32, v1008 = x3 + 1 → kc_22 x2 v1008 (σ1007))) (fun _ _ => False) r1004 (σ))) (r1003 >>> ((((2 : Int32) * x3) + 2) &&& 31)) 4 (σ))))))
def q_L_house (L : Nat) (xs : Nat → Int32) (post : Mem → Prop) (σ : Mem) : Prop := (¬ (0 : Int32) < 0 ∧ (∀ r2 : Int32, r2 = cellv L xs (0 : Int32) → (q_L_below (fun (r3 : Int32) (σ4 : Mem) => (∀ v5 : Int32, v5 = ((2 : Int32) + r3) → (∃ n9 : Nat, lp_3 (q_L_house_22 L xs post (q_L_house_53 L xs post)) n9 v5 0 (σ)))) r2 4 (σ))))
abbrev rm_L_house : Room := { frames := 22, cells := 150, slots := 1500, locals := 983 }
abbrev wq_L_house : List Cond := Cond.code yL_house cL_house 5 (some (.object "Meetjoin")) :: wLAW
set_option maxHeartbeats 8000000 in
set_option maxRecDepth 100000 in
theorem c_L_house (l : Launch) (hflag : l.stackTraces = false) (D : va_G) (k : Nat → Nat) {b L : Nat} {xs : Nat → Int32} (hL : L ≤ 260) {sz : Nat} {post : Mem → Prop} (hp : q_L_house L xs post sI) : Met l yL_house wq_L_house rm_L_house (va_Pc [.ref b] (Px b L xs D k [] sz)) (va_Qr (fun z : Nat × ((Nat → Nat) × Mem) => z.1 = z.2.1 0 ∧ post z.2.2) (fun z a t => a = z.1 ∧ Bw D [] sz (W5 k z.2.1 z.2.2) t) (va_A [] sz)) 150 1500 (va_A [] sz) := by
  refine fw_rP (Or.inl ⟨_, rfl⟩) (post := fun (r : Nat) (u : (Nat → Nat) × Mem) => r = u.1 0 ∧ post u.2) (wf := fun u : (Nat → Nat) × Mem => W5 k u.1 u.2) (by decide) rfl (Nat.le_of_ble_eq_true rfl) ?_
  intro p e s m args below meth c A Q ls hC hP hD hl hX hbl hbA hret
  obtain ⟨⟨hx, hb, hml, hown, hts⟩, hG, hA⟩ := id hC
  have hK := hG.1
  have hS : va_S A s.heap s.heap [] := va_S.rf
  have hin_X5 : ∀ w ∈ u_ws RX5 TX5 4, w ∈ wq_L_house := fun w h => List.mem_cons_of_mem _ (iB_A _ (iU_X5 w h))
  have hl : lv_has ls 5 [(0, .ref b)] := hl
  have hown : s.vm.findClass RL = some m.cls := hown
  refine va_new (ci := 5) (fs := [.null, .null, .null, .int 0]) (C := RX5) (T := TX5) (N := 4) hx hb hts hin_X5 tyX5 tyX5_ok hown (hts _ (List.mem_cons_of_mem _ B_26)) (hts _ (List.mem_cons_of_mem _ B_27)) (hts _ (List.mem_cons_of_mem _ (iB_A _ A_25))) hK hP hD hS hA rfl (fun j hj => by rcases (show j = 0 ∨ j = 1 ∨ j = 2 ∨ j = 3 by omega) with rfl | rfl | rfl | rfl <;> rfl) (Nat.le_of_ble_eq_true rfl) (Nat.le_of_ble_eq_true rfl) dL_house_0 (fun h5 H hP hD hS => ?_)
  have hP : va_P D vwCl [(h5, .inr (5, [.null, .null, .null, .int 0]))] H := hP
  have hD : va_D A [(h5, .inr (5, [.null, .null, .null, .int 0]))] := hD
  refine lv_dup hx hb dL_house_3 rfl ?_
  refine fw_cvI (S := Nat → Nat) (post := fun _ => True) (wf := fun u => wv_X5_init k h5 u) (wN := fun u => wv_X5_init k h5 u) (As := []) (rest := [.ref h5]) hC (c_X5_init l D k h5) (cwI 0 hts (gB_0 (iB_A _ A_191)) rfl rfl rfl (hts _ (List.mem_cons_of_mem _ (iB_A _ A_25))) (hts _ (List.mem_cons_of_mem _ B_28)) (hts _ (List.mem_cons_of_mem _ B_29)) rfl (by decide +kernel) ⟨Nat.le_of_ble_eq_true rfl, Nat.le_of_ble_eq_true rfl⟩) rfl hl.1 rfl (Nat.le_of_ble_eq_true rfl) dL_house_4 ⟨Nat.le_of_ble_eq_true rfl, Nat.le_of_ble_eq_true rfl⟩ hP hD hS Jn.same (fun u5 H locs hP hD hS _ => ?_)
  obtain ⟨hP, hD⟩ := W5_start hP hD
  refine lv_astore_n (lv' := [(1, .ref h5), (0, .ref b)]) hx hb dL_house_7 rfl hl (by decide) rfl (fun ls hl => ?_)
  obtain ⟨ad, ead⟩ : ∃ z : Nat → Nat, z = adI h5 u5 := ⟨_, rfl⟩
  rw [← ead] at hP hD
  have e0 : h5 = ad 0 := by rw [ead]; rfl
  rw [e0] at hl
  obtain ⟨σ, eσ⟩ : ∃ z : Mem, z = sI := ⟨_, rfl⟩
  rw [← eσ] at hP hD hp
  unfold q_L_house at hp
  have B_94 : ∀  (σ : Mem) (H : Heap) (locs : List Loc) (ls : Array Slot), va_P D vwCl (W5 k ad (σ)) H → va_D A (W5 k ad (σ)) → va_S A s.heap H locs → lv_has ls 5 [(1, .ref (ad 0))] → (q_L_house_94 L xs post)  σ → W p l e rm_L_house s m args below meth c H locs 100 1000 Q (F0 m 94 ls []) := by
    intro  σ H locs ls hP hD hS hl hp
    unfold q_L_house_94 at hp
    refine lv_aload_n hx hb dL_house_94 rfl (lv_at hl 0 rfl) ?_
    exact hret (ad 0) (ad, σ) _ _ _ _ _ _ dL_house_95 hP hD hS (Nat.le_of_ble_eq_true rfl) (Nat.le_of_ble_eq_true rfl) ⟨rfl, hp⟩
  have B_69 : ∀ (n_69 : Nat) (cz9 sz9 : Nat) (hcz : cz9 + n_69 * 1 ≤ 100 ∧ sz9 + n_69 * 6 ≤ 1000) (x3 : Int32) (x4 : Int32) (σ : Mem) (H : Heap) (locs : List Loc) (ls : Array Slot), va_P D vwCl (W5 k ad (σ)) H → va_D A (W5 k ad (σ)) → va_S A s.heap H locs → lv_has ls 5 [(0, .ref b), (1, .ref (ad 0)), (3, .int x3), (4, .int x4)] → lp_3 (q_L_house_69 L xs post (q_L_house_94 L xs post)) n_69 x3 x4 σ → W p l e rm_L_house s m args below meth c H locs cz9 sz9 Q (F0 m 69 ls []) := by
    intro n_69
    induction n_69 with
    | zero => intro cz9 sz9 hcz x3 x4 σ H locs ls hP hD hS hl hp; exact hp.elim
    | succ n_69 ih_69 =>
      intro cz9 sz9 hcz
      intro x3 x4 σ H locs ls hP hD hS hl hp
      have hp : q_L_house_69 L xs post (q_L_house_94 L xs post) (lp_3 (q_L_house_69 L xs post (q_L_house_94 L xs post)) n_69) x3 x4 σ := hp
      unfold q_L_house_69 at hp
      refine lv_iload hx hb dL_house_69 (lv_at hl 3 rfl) ?_
      refine lv_iload_n hx hb dL_house_71 rfl (lv_at hl 2 rfl) ?_
      refine lv_icmp_ge (tgt := 94) hx hb dL_house_72 (by decide) (fun c30001 => ?_) (fun c30001 => ?_)
      · have hp := hp.1 c30001
        refine W.widen (k := 100) (n := 1000) (by omega) (by omega) ?_
        exact B_94  (σ) _ _ _ hP hD hS (lv_sub hl [1] rfl) hp
      · have hp := hp.2 c30001
        refine lv_aload_n hx hb dL_house_75 rfl (lv_at hl 1 rfl) ?_
        refine lv_aload_n hx hb dL_house_76 rfl (lv_at hl 0 rfl) ?_
        refine lv_iconst (v := 2) hx hb dL_house_77 (by decide) ?_
        refine lv_iload hx hb dL_house_78 (lv_at hl 3 rfl) ?_
        refine lv_iadd hx hb dL_house_80 ?_
        obtain ⟨h30002, hp⟩ := hp
        refine fw_ciSP (As := [.ref b, .int ((2 : Int32) + x4)]) (rest := [.ref (ad 0)]) hC (c_L_cell l D k hL (v := ((2 : Int32) + x4)) h30002) (va_cwS 2 hts (gB_L B_30 B_31 B_8 B_2) rfl rfl rfl (by decide +kernel) ⟨Nat.le_of_ble_eq_true rfl, Nat.le_of_ble_eq_true rfl⟩) rfl hl.1 rfl (Nat.le_of_ble_eq_true rfl) dL_house_81 ⟨Nat.le_trans (m := 120) (by omega) (Nat.le_of_ble_eq_true rfl), Nat.le_trans (m := 1200) (by omega) (Nat.le_of_ble_eq_true rfl)⟩ P_nil D_nil hS hX hbl hbA (Jn.pure (w0 := fun _ : Mem => []) hP hD) (fun r30003 u9 H locs hP hD hS er30003 => ?_)
        have hp := hp r30003 er30003
        have hP : va_P D vwCl (W5 k ad (σ)) H := hP
        have hD : va_D A (W5 k ad (σ)) := hD
        refine fw_ciSX (As := [.ref (ad 0), .int r30003]) (rest := []) hC (c_L_tell l hflag D k ad hp) (vx_cwSW 2 hts (gB_L B_35 B_36 B_8 B_25) rfl rfl rfl (by decide +kernel) ⟨Nat.le_of_ble_eq_true rfl, Nat.le_of_ble_eq_true rfl⟩) rfl hl.1 rfl (Nat.le_of_ble_eq_true rfl) dL_house_84 ⟨Nat.le_trans (m := 120) (by omega) (Nat.le_of_ble_eq_true rfl), Nat.le_trans (m := 1200) (by omega) (Nat.le_of_ble_eq_true rfl)⟩ hP hD hS Jn.same (fun r30004 σ30005 H locs hP hD hS hp => ?_)
        have hP : va_P D vwCl (W5 k ad (σ30005)) H := hP
        have hD : va_D A (W5 k ad (σ30005)) := hD
        refine lv_pop hx hb dL_house_87 rfl ?_
        obtain ⟨v30006, ev30006⟩ : ∃ z : Int32, z = x4 + 1 := ⟨_, rfl⟩
        have hp := hp v30006 ev30006
        refine lv_iinc (v := v30006) (lv' := [(4, .int v30006), (0, .ref b), (1, .ref (ad 0)), (3, .int x3)]) hx hb dL_house_88 hl (k := 3) rfl (by rw [ev30006]; rfl) (by decide) rfl (fun ls hl => ?_)
        refine lv_goto (tgt := 69) hx hb dL_house_91 (by decide) ?_
        refine W.widen (k := cz9 + 1) (n := sz9 + 6) (by omega) (by omega) ?_
        exact ih_69 (cz9 + 1) (sz9 + 6) ⟨by omega, by omega⟩ x3 v30006 (σ30005) _ _ _ hP hD hS (lv_sub hl [1, 2, 3, 0] rfl) hp
  have B_53 : ∀  (σ : Mem) (H : Heap) (locs : List Loc) (ls : Array Slot), va_P D vwCl (W5 k ad (σ)) H → va_D A (W5 k ad (σ)) → va_S A s.heap H locs → lv_has ls 5 [(0, .ref b), (1, .ref (ad 0))] → (q_L_house_53 L xs post)  σ → W p l e rm_L_house s m args below meth c H locs 45 411 Q (F0 m 53 ls []) := by
    intro  σ H locs ls hP hD hS hl hp
    unfold q_L_house_53 at hp
    refine lv_iconst (v := 4) hx hb dL_house_53 (by decide) ?_
    refine lv_aload_n hx hb dL_house_54 rfl (lv_at hl 0 rfl) ?_
    refine lv_iconst (v := 1) hx hb dL_house_55 (by decide) ?_
    obtain ⟨h20001, hp⟩ := hp
    refine fw_ciSP (As := [.ref b, .int 1]) (rest := [.int 4]) hC (c_L_cell l D k hL (v := 1) h20001) (va_cwS 2 hts (gB_L B_30 B_31 B_8 B_2) rfl rfl rfl (by decide +kernel) ⟨Nat.le_of_ble_eq_true rfl, Nat.le_of_ble_eq_true rfl⟩) rfl hl.1 rfl (Nat.le_of_ble_eq_true rfl) dL_house_56 ⟨Nat.le_of_ble_eq_true rfl, Nat.le_of_ble_eq_true rfl⟩ P_nil D_nil hS hX hbl hbA (Jn.pure (w0 := fun _ : Mem => []) hP hD) (fun r20002 u9 H locs hP hD hS er20002 => ?_)
    have hp := hp r20002 er20002
    have hP : va_P D vwCl (W5 k ad (σ)) H := hP
    have hD : va_D A (W5 k ad (σ)) := hD
    refine lv_bipush (v := 9) hx hb dL_house_59 (by decide) ?_
    refine fw_ciS (As := [.int r20002, .int 9]) (rest := [.int 4]) hC (c_L_below l D k hp) (va_cwS 2 hts (gB_L B_6 B_7 B_8 B_0) rfl rfl rfl (by decide +kernel) ⟨Nat.le_of_ble_eq_true rfl, Nat.le_of_ble_eq_true rfl⟩) rfl hl.1 rfl (Nat.le_of_ble_eq_true rfl) dL_house_61 ⟨Nat.le_of_ble_eq_true rfl, Nat.le_of_ble_eq_true rfl⟩ P_nil D_nil hS (Jn.pure (w0 := fun _ : Mem => []) hP hD) (fun r20003 σ20004 H locs hP hD hS hp => ?_)
    have hP : va_P D vwCl (W5 k ad (σ)) H := hP
    have hD : va_D A (W5 k ad (σ)) := hD
    refine lv_iadd hx hb dL_house_64 ?_
    refine lv_topi (fun v20005 ev20005 => ?_)
    have hp := hp v20005 ev20005
    refine lv_istore_n (lv' := [(3, .int v20005), (0, .ref b), (1, .ref (ad 0))]) hx hb dL_house_65 rfl hl (by decide) rfl (fun ls hl => ?_)
    refine lv_iconst (v := 0) hx hb dL_house_66 (by decide) ?_
    refine lv_istore (lv' := [(4, .int 0), (3, .int v20005), (0, .ref b), (1, .ref (ad 0))]) hx hb dL_house_67 hl (by decide) rfl (fun ls hl => ?_)
    obtain ⟨n9, hn9, hp⟩ := hp
    exact B_69 n9 45 411 ⟨by omega, by omega⟩ v20005 0 (σ) _ _ _ hP hD hS (lv_sub hl [2, 3, 1, 0] rfl) hp
  have B_22 : ∀ (n_22 : Nat) (x2 : Int32) (x3 : Int32) (σ : Mem) (H : Heap) (locs : List Loc) (ls : Array Slot), va_P D vwCl (W5 k ad (σ)) H → va_D A (W5 k ad (σ)) → va_S A s.heap H locs → lv_has ls 5 [(0, .ref b), (1, .ref (ad 0)), (2, .int x2), (3, .int x3)] → lp_3 (q_L_house_22 L xs post (q_L_house_53 L xs post)) n_22 x2 x3 σ → W p l e rm_L_house s m args below meth c H locs 45 411 Q (F0 m 22 ls []) := by
    intro n_22
    induction n_22 with
    | zero => intro x2 x3 σ H locs ls hP hD hS hl hp; exact hp.elim
    | succ n_22 ih_22 =>
      intro x2 x3 σ H locs ls hP hD hS hl hp
      have hp : q_L_house_22 L xs post (q_L_house_53 L xs post) (lp_3 (q_L_house_22 L xs post (q_L_house_53 L xs post)) n_22) x2 x3 σ := hp
      unfold q_L_house_22 at hp
      refine lv_iload_n hx hb dL_house_22 rfl (lv_at hl 3 rfl) ?_
      refine lv_iload_n hx hb dL_house_23 rfl (lv_at hl 2 rfl) ?_
      refine lv_icmp_ge (tgt := 53) hx hb dL_house_24 (by decide) (fun c10001 => ?_) (fun c10001 => ?_)
      · have hp := hp.1 c10001
        exact B_53  (σ) _ _ _ hP hD hS (lv_sub hl [0, 1] rfl) hp
      · have hp := hp.2 c10001
        refine lv_aload_n hx hb dL_house_27 rfl (lv_at hl 1 rfl) ?_
        refine lv_aload_n hx hb dL_house_28 rfl (lv_at hl 0 rfl) ?_
        refine lv_iconst (v := 0) hx hb dL_house_29 (by decide) ?_
        obtain ⟨h10002, hp⟩ := hp
        refine fw_ciSP (As := [.ref b, .int 0]) (rest := [.ref (ad 0)]) hC (c_L_cell l D k hL (v := 0) h10002) (va_cwS 2 hts (gB_L B_30 B_31 B_8 B_2) rfl rfl rfl (by decide +kernel) ⟨Nat.le_of_ble_eq_true rfl, Nat.le_of_ble_eq_true rfl⟩) rfl hl.1 rfl (Nat.le_of_ble_eq_true rfl) dL_house_30 ⟨Nat.le_of_ble_eq_true rfl, Nat.le_of_ble_eq_true rfl⟩ P_nil D_nil hS hX hbl hbA (Jn.pure (w0 := fun _ : Mem => []) hP hD) (fun r10003 u9 H locs hP hD hS er10003 => ?_)
        have hp := hp r10003 er10003
        have hP : va_P D vwCl (W5 k ad (σ)) H := hP
        have hD : va_D A (W5 k ad (σ)) := hD
        refine lv_iconst (v := 2) hx hb dL_house_33 (by decide) ?_
        refine lv_iload_n hx hb dL_house_34 rfl (lv_at hl 3 rfl) ?_
        refine lv_imul hx hb dL_house_35 ?_
        refine lv_iconst (v := 2) hx hb dL_house_36 (by decide) ?_
        refine lv_iadd hx hb dL_house_37 ?_
        refine lv_ishr hx hb dL_house_38 ?_
        refine lv_iconst (v := 4) hx hb dL_house_39 (by decide) ?_
        refine fw_ciS (As := [.int (r10003 >>> ((((2 : Int32) * x3) + 2) &&& 31)), .int 4]) (rest := [.ref (ad 0)]) hC (c_L_below l D k hp) (va_cwS 2 hts (gB_L B_6 B_7 B_8 B_0) rfl rfl rfl (by decide +kernel) ⟨Nat.le_of_ble_eq_true rfl, Nat.le_of_ble_eq_true rfl⟩) rfl hl.1 rfl (Nat.le_of_ble_eq_true rfl) dL_house_40 ⟨Nat.le_of_ble_eq_true rfl, Nat.le_of_ble_eq_true rfl⟩ P_nil D_nil hS (Jn.pure (w0 := fun _ : Mem => []) hP hD) (fun r10004 σ10005 H locs hP hD hS hp => ?_)
        have hP : va_P D vwCl (W5 k ad (σ)) H := hP
        have hD : va_D A (W5 k ad (σ)) := hD
        refine fw_ciV (As := [.int r10004]) (rest := []) hC (c0_X5_field l D k ad hp) (cwV 1 hts (gB_V B_32 B_33 B_34 (iB_A _ A_25) (iB_A _ A_206)) rfl rfl rfl (by decide +kernel) ⟨Nat.le_of_ble_eq_true rfl, Nat.le_of_ble_eq_true rfl⟩) (va_recv hK hP (ci := 5) (q0 := 0) rfl rfl) rfl hl.1 rfl (Nat.le_of_ble_eq_true rfl) dL_house_43 ⟨Nat.le_of_ble_eq_true rfl, Nat.le_of_ble_eq_true rfl⟩ hP hD hS Jn.same (fun r10006 σ10007 H locs hP hD hS hp => ?_)
        have hP : va_P D vwCl (W5 k ad (σ10007)) H := hP
        have hD : va_D A (W5 k ad (σ10007)) := hD
        refine lv_pop hx hb dL_house_46 rfl ?_
        obtain ⟨v10008, ev10008⟩ : ∃ z : Int32, z = x3 + 1 := ⟨_, rfl⟩
        have hp := hp v10008 ev10008
        refine lv_iinc (v := v10008) (lv' := [(3, .int v10008), (0, .ref b), (1, .ref (ad 0)), (2, .int x2)]) hx hb dL_house_47 hl (k := 3) rfl (by rw [ev10008]; rfl) (by decide) rfl (fun ls hl => ?_)
        refine lv_goto (tgt := 22) hx hb dL_house_50 (by decide) ?_
        exact ih_22 x2 v10008 (σ10007) _ _ _ hP hD hS (lv_sub hl [1, 2, 3, 0] rfl) hp
  refine lv_iconst (v := 2) hx hb dL_house_8 (by decide) ?_
  refine lv_aload_n hx hb dL_house_9 rfl (lv_at hl 1 rfl) ?_
  refine lv_iconst (v := 0) hx hb dL_house_10 (by decide) ?_
  obtain ⟨h1, hp⟩ := hp
  refine fw_ciSP (As := [.ref b, .int 0]) (rest := [.int 2]) hC (c_L_cell l D k hL (v := 0) h1) (va_cwS 2 hts (gB_L B_30 B_31 B_8 B_2) rfl rfl rfl (by decide +kernel) ⟨Nat.le_of_ble_eq_true rfl, Nat.le_of_ble_eq_true rfl⟩) rfl hl.1 rfl (Nat.le_of_ble_eq_true rfl) dL_house_11 ⟨Nat.le_of_ble_eq_true rfl, Nat.le_of_ble_eq_true rfl⟩ P_nil D_nil hS hX hbl hbA (Jn.pure (w0 := fun _ : Mem => []) hP hD) (fun r2 u9 H locs hP hD hS er2 => ?_)
  have hp := hp r2 er2
  have hP : va_P D vwCl (W5 k ad (σ)) H := hP
  have hD : va_D A (W5 k ad (σ)) := hD
  refine lv_iconst (v := 4) hx hb dL_house_14 (by decide) ?_
  refine fw_ciS (As := [.int r2, .int 4]) (rest := [.int 2]) hC (c_L_below l D k hp) (va_cwS 2 hts (gB_L B_6 B_7 B_8 B_0) rfl rfl rfl (by decide +kernel) ⟨Nat.le_of_ble_eq_true rfl, Nat.le_of_ble_eq_true rfl⟩) rfl hl.1 rfl (Nat.le_of_ble_eq_true rfl) dL_house_15 ⟨Nat.le_of_ble_eq_true rfl, Nat.le_of_ble_eq_true rfl⟩ P_nil D_nil hS (Jn.pure (w0 := fun _ : Mem => []) hP hD) (fun r3 σ4 H locs hP hD hS hp => ?_)
  have hP : va_P D vwCl (W5 k ad (σ)) H := hP
  have hD : va_D A (W5 k ad (σ)) := hD
  refine lv_iadd hx hb dL_house_18 ?_
  refine lv_topi (fun v5 ev5 => ?_)
  have hp := hp v5 ev5
  refine lv_istore_n (lv' := [(2, .int v5), (1, .ref (ad 0)), (0, .ref b)]) hx hb dL_house_19 rfl hl (by decide) rfl (fun ls hl => ?_)
  refine lv_iconst (v := 0) hx hb dL_house_20 (by decide) ?_
  refine lv_istore_n (lv' := [(3, .int 0), (2, .int v5), (1, .ref (ad 0)), (0, .ref b)]) hx hb dL_house_21 rfl hl (by decide) rfl (fun ls hl => ?_)
  obtain ⟨n9, hp⟩ := hp
  exact B_22 n9 v5 0 (σ) _ _ _ hP hD hS (lv_sub hl [3, 2, 1, 0] rfl) hp
