def q_X5_value_117  (post : Nat → Mem → Prop) (px : String → Mem → Prop)  (wb : (Nat → Nat)) (wt : Mem) (σ : Mem) : Prop := (∃ c7 : Nat, (c7 < 16 ∧ sb_Fit (wt 1) ∧ wt 0 1 = 0 ∧ wt 0 3 = nI c7) ∧ (∀ r5001 : Nat, post r5001 (σ)))
def q_X5_value_85  (post : Nat → Mem → Prop) (px : String → Mem → Prop)  (x1 : Int32) (wb : (Nat → Nat)) (wt : Mem) (σ : Mem) : Prop := (vp_in x1 5 ∧ ((((σ) 22 x1.toNatClampNeg) = (-1) → (q_X5_value_117 post px) wb wt (σ)) ∧ (¬ (((σ) 22 x1.toNatClampNeg) = (-1)) → (q_J4_append_cf468 wb 16 (fun (r4003 : Nat) (τ4004 : Mem) => r4003 = wb 0 ∧ (vp_in x1 5 ∧ (q_J4_append_bf812 wb 16 (fun (r4006 : Nat) (τ4007 : Mem) => r4006 = wb 0 ∧ (q_X5_value_117 post px) wb (τ4007) (σ)) ((σ) 22 x1.toNatClampNeg) (τ4004)))) 61 wt))))
def q_X5_value_79  (post : Nat → Mem → Prop) (px : String → Mem → Prop) (kE_85 : Int32 → (Nat → Nat) → Mem → Mem → Prop) (kc_48 : Int32 → Int32 → (Nat → Nat) → Mem → Mem → Prop) (x1 : Int32) (x3 : Int32) (wb : (Nat → Nat)) (wt : Mem) (σ : Mem) : Prop := (∀ v3001 : Int32, v3001 = x3 + 1 → kc_48 x1 v3001 wb wt (σ))
def q_X5_value_48  (post : Nat → Mem → Prop) (px : String → Mem → Prop) (kE_85 : Int32 → (Nat → Nat) → Mem → Mem → Prop) (kc_48 : Int32 → Int32 → (Nat → Nat) → Mem → Mem → Prop) (x1 : Int32) (x3 : Int32) (wb : (Nat → Nat)) (wt : Mem) (σ : Mem) : Prop := ((8 ≤ x3 → kE_85 x1 wb wt (σ)) ∧ (¬ (8 ≤ x3) → (vp_in x1 5 ∧ (q_X5_contains (fun (r2003 : Int32) (σ2004 : Mem) => ((r2003 = 0 → (q_X5_value_79 post px kE_85 kc_48) x1 x3 wb wt (σ)) ∧ (¬ (r2003 = 0) → (q_J4_append_bf812 wb 16 (fun (r2006 : Nat) (τ2007 : Mem) => r2006 = wb 0 ∧ (q_X5_value_79 post px kE_85 kc_48) x1 x3 wb (τ2007) (σ)) x3 wt)))) ((σ) 13 x1.toNatClampNeg) x3 (σ)))))
def q_X5_value_46  (post : Nat → Mem → Prop) (px : String → Mem → Prop)  (x1 : Int32) (wb : (Nat → Nat)) (wt : Mem) (σ : Mem) : Prop := (∃ n9 : Nat, lp_5 (q_X5_value_48 post px (q_X5_value_85 post px)) n9 x1 0 wb wt (σ))
def q_X5_value  (post : Nat → Mem → Prop) (px : String → Mem → Prop) (p1 : Int32) (σ : Mem) : Prop := (q_X5_isField (fun (r1 : Int32) (σ2 : Mem) => ((r1 ≠ 0 → (∀ bd : Nat → Nat, ((((σ2) 12 2) = 0 → (q_X5_value_46 post px) p1 bd (fun _ _ => 0) (σ2)) ∧ (¬ (((σ2) 12 2) = 0) → (q_J4_append_cf468 bd 16 (fun (r5 : Nat) (τ6 : Mem) => r5 = bd 0 ∧ (q_X5_value_46 post px) p1 bd (τ6) (σ2)) 33 (fun _ _ => 0)))))) ∧ (r1 = 0 → (px "java/lang/IndexOutOfBoundsException" (σ2))))) p1 (σ))
abbrev rm_X5_value : Room := { frames := 6, cells := 4, slots := 88, locals := 200 }
abbrev wq_X5_value : List Cond := Cond.code yX5_value cX5_value 4 (some (.object "java/lang/String")) :: wALL
set_option maxHeartbeats 4000000 in
set_option maxRecDepth 100000 in
theorem c_X5_value (l : Launch) (hflag : l.stackTraces = false) (D : va_G) (k ad : Nat → Nat) {sz : Nat} {σ : Mem} {p1 : Int32} {post : Nat → Mem → Prop} {px : String → Mem → Prop} (hp : q_X5_value post px p1 σ) : vx_Met l yX5_value wq_X5_value rm_X5_value (va_Pc [.ref (ad 0), .int p1] (Pw D k (W5 k ad (σ)) sz)) (va_Qr (fun z : Nat × Mem => post z.1 z.2) (fun z a t => a = z.1 ∧ Bw D (W5 k ad (σ)) sz (W5 k ad z.2) t) (va_A (W5 k ad (σ)) sz)) (vx_X (fun z : String × Mem => px z.1 z.2) (fun E z t => E = z.1 ∧ Bw D (W5 k ad (σ)) sz (W5 k ad z.2) t) (va_A (W5 k ad (σ)) sz)) 4 88 (va_A (W5 k ad (σ)) sz) := by
  refine fw_xr hflag (Or.inl ⟨_, rfl⟩) (wf := fun u : Mem => W5 k ad u) (by decide) rfl (Nat.le_of_ble_eq_true rfl) ?_
  intro p e s m args below meth c A Q ls hC hP hD hl hret hthr
  obtain ⟨⟨hx, hb, hml, hown, hts⟩, hG, hA⟩ := id hC
  have hK := hG.1
  have hS : va_S A s.heap s.heap [] := va_S.rf
  have hin_J4 : ∀ w ∈ u_ws RJ4 TJ4 4, w ∈ wq_X5_value := fun w h => List.mem_cons_of_mem _ (iU_J4 w h)
  have hin_X5 : ∀ w ∈ u_ws RX5 TX5 4, w ∈ wq_X5_value := fun w h => List.mem_cons_of_mem _ (iU_X5 w h)
  have hf_21 := hts _ (List.mem_cons_of_mem _ A_186)
  have hin_X4 : ∀ w ∈ u_ws RX4 TX4 7, w ∈ wq_X5_value := fun w h => List.mem_cons_of_mem _ (iU_X4 w h)
  have hf_113 := hts _ (List.mem_cons_of_mem _ A_246)
  have hin_X3 : ∀ w ∈ u_ws RX3 TX3 3, w ∈ wq_X5_value := fun w h => List.mem_cons_of_mem _ (iU_X3 w h)
  have hf_117 := hts _ (List.mem_cons_of_mem _ A_247)
  have hf_168 := hts _ (List.mem_cons_of_mem _ A_271)
  have hf_128 := hts _ (List.mem_cons_of_mem _ A_249)
  have hl : lv_has ls 4 [(0, .ref (ad 0)), (1, .int p1)] := hl
  have hown : s.vm.findClass RX5 = some m.cls := hown
  unfold q_X5_value at hp
  have B_117 : ∀ (wb : (Nat → Nat)) (wt : Mem) (σ : Mem) (H : Heap) (locs : List Loc) (ls : Array Slot), va_P D vwCl (W5 k ad (σ) ++ WB k wb 16 wt) H → va_D A (W5 k ad (σ) ++ WB k wb 16 wt) → va_S A s.heap H locs → lv_has ls 4 [(2, .ref (wb 0))] → (q_X5_value_117 post px) wb wt σ → W p l e rm_X5_value s m args below meth c H locs 2 20 Q (F0 m 117 ls []) := by
    intro wb wt σ H locs ls hP hD hS hl hp
    unfold q_X5_value_117 at hp
    refine lv_aload_n hx hb dX5_value_117 rfl (lv_at hl 0 rfl) ?_
    obtain ⟨c7, ⟨hc7, hf7, e17, e37⟩, hp⟩ := hp
    refine fw_crV (S := Nat × Nat) (post := fun r u => r = u.1) (wf := fun u : Nat × Nat => (WB k wb 16 wt ++ [(u.1, .inr (0, [.ref u.2, .int 0, .int 0, .int 0]))]) ++ [(u.2, .inl (k 4, c7, .inl (va_cpy (wt 1) (fun _ => 0) 0 0 c7)))]) (wN := fun u : Nat × Nat => W5 k ad (σ) ++ ((WB k wb 16 wt ++ [(u.1, .inr (0, [.ref u.2, .int 0, .int 0, .int 0]))]) ++ [(u.2, .inl (k 4, c7, .inl (va_cpy (wt 1) (fun _ => 0) 0 0 c7)))])) (As := []) (rest := []) hC (c_tos l D k wb 16 c7 wt hc7 (by decide) hf7 e17 e37) (cwV 0 hts (gA_V A_512 A_513 A_514 A_458 A_502) rfl rfl rfl (by decide +kernel) ⟨(Nat.le_of_ble_eq_true rfl), (Nat.le_of_ble_eq_true rfl)⟩) (va_recv hK hP (ci := 1) (q0 := 45) rfl rfl) rfl hl.1 rfl (Nat.le_of_ble_eq_true rfl) dX5_value_118 ⟨(Nat.le_of_ble_eq_true rfl), (Nat.le_of_ble_eq_true rfl)⟩ (P_right hP) (D_right hD) hS (Jn.right hP hD) (fun r50001 u9 H locs hP hD hS _ => ?_)
    have hP := P_left hP
    have hD := D_left hD
    have hp := hp r50001
    exact hret r50001 (σ) _ _ _ _ _ _ dX5_value_121 hP hD hS (Nat.le_of_ble_eq_true rfl) (Nat.le_of_ble_eq_true rfl) hp
  have B_85 : ∀ (x1 : Int32) (wb : (Nat → Nat)) (wt : Mem) (σ : Mem) (H : Heap) (locs : List Loc) (ls : Array Slot), va_P D vwCl (W5 k ad (σ) ++ WB k wb 16 wt) H → va_D A (W5 k ad (σ) ++ WB k wb 16 wt) → va_S A s.heap H locs → lv_has ls 4 [(0, .ref (ad 0)), (1, .int x1), (2, .ref (wb 0))] → (q_X5_value_85 post px) x1 wb wt σ → W p l e rm_X5_value s m args below meth c H locs 2 20 Q (F0 m 85 ls []) := by
    intro x1 wb wt σ H locs ls hP hD hS hl hp
    unfold q_X5_value_85 at hp
    refine lv_aload_n hx hb dX5_value_85 rfl (lv_at hl 0 rfl) ?_
    refine va_get (D := D) (ci := 9) (C := RX5) (T := TX5) (N := 4) hx hb hts hin_X5 hown hK hP 0 rfl rfl 1 (by decide) hf_21 (fun _ h9 => h9) rfl dX5_value_86 ?_
    refine va_get (D := D) (ci := 8) (C := RX4) (T := TX4) (N := 7) hx hb hts hin_X4 hown hK hP 11 rfl rfl 5 (by decide) hf_128 (fun _ h9 => h9) rfl dX5_value_89 ?_
    refine lv_iload_n hx hb dX5_value_92 rfl (lv_at hl 1 rfl) ?_
    obtain ⟨h40001, hp⟩ := hp
    refine va_iald hx hb hK hP 22 0 rfl rfl h40001 dX5_value_93 ?_
    refine lv_iconst (v := (-1)) hx hb dX5_value_94 (by decide) ?_
    refine lv_icmp_eq (tgt := 117) hx hb dX5_value_95 (by decide) (fun c40002 => ?_) (fun c40002 => ?_)
    · have hp := hp.1 c40002
      exact B_117 wb wt (σ) _ _ _  hP hD hS (lv_sub hl [2] rfl) hp
    · have hp := hp.2 c40002
      refine lv_aload_n hx hb dX5_value_98 rfl (lv_at hl 2 rfl) ?_
      refine lv_bipush (v := 61) hx hb dX5_value_99 (by decide) ?_
      refine fw_crV (wf := fun u : Mem => WB k wb 16 u) (wN := fun u : Mem => W5 k ad (σ) ++ WB k wb 16 u) (As := [.int 61]) (rest := []) hC (c_J4_append_cf468 l D k wb 16 hp) (cwV 1 hts (gA_V A_506 A_507 A_508 A_458 A_418) rfl rfl rfl (by decide +kernel) ⟨(Nat.le_of_ble_eq_true rfl), (Nat.le_of_ble_eq_true rfl)⟩) (va_recv hK hP (ci := 1) (q0 := 45) rfl rfl) rfl hl.1 rfl (Nat.le_of_ble_eq_true rfl) dX5_value_101 ⟨(Nat.le_of_ble_eq_true rfl), (Nat.le_of_ble_eq_true rfl)⟩ (P_right hP) (D_right hD) hS (Jn.right hP hD) (fun r40003 τ40004 H locs hP hD hS hp => ?_)
      obtain ⟨hr9, hp⟩ := hp
      subst hr9
      refine lv_aload_n hx hb dX5_value_104 rfl (lv_at hl 0 rfl) ?_
      refine va_get (D := D) (ci := 9) (C := RX5) (T := TX5) (N := 4) hx hb hts hin_X5 hown hK hP 0 rfl rfl 1 (by decide) hf_21 (fun _ h9 => h9) rfl dX5_value_105 ?_
      refine va_get (D := D) (ci := 8) (C := RX4) (T := TX4) (N := 7) hx hb hts hin_X4 hown hK hP 11 rfl rfl 5 (by decide) hf_128 (fun _ h9 => h9) rfl dX5_value_108 ?_
      refine lv_iload_n hx hb dX5_value_111 rfl (lv_at hl 1 rfl) ?_
      obtain ⟨h40005, hp⟩ := hp
      refine va_iald hx hb hK hP 22 0 rfl rfl h40005 dX5_value_112 ?_
      refine fw_crV (wf := fun u : Mem => WB k wb 16 u) (wN := fun u : Mem => W5 k ad (σ) ++ WB k wb 16 u) (As := [.int ((σ) 22 x1.toNatClampNeg)]) (rest := []) hC (c_J4_append_bf812 l D k wb 16 hp) (cwV 1 hts (gA_V A_509 A_510 A_511 A_458 A_448) rfl rfl rfl (by decide +kernel) ⟨(Nat.le_of_ble_eq_true rfl), (Nat.le_of_ble_eq_true rfl)⟩) (va_recv hK hP (ci := 1) (q0 := 45) rfl rfl) rfl hl.1 rfl (Nat.le_of_ble_eq_true rfl) dX5_value_113 ⟨(Nat.le_of_ble_eq_true rfl), (Nat.le_of_ble_eq_true rfl)⟩ (P_right hP) (D_right hD) hS (Jn.right hP hD) (fun r40006 τ40007 H locs hP hD hS hp => ?_)
      obtain ⟨hr9, hp⟩ := hp
      subst hr9
      refine lv_pop hx hb dX5_value_116 rfl ?_
      exact B_117 wb (τ40007) (σ) _ _ _  hP hD hS (lv_sub hl [2] rfl) hp
  have B_48 : ∀ (n_48 : Nat) (x1 : Int32) (x3 : Int32) (wb : (Nat → Nat)) (wt : Mem) (σ : Mem) (H : Heap) (locs : List Loc) (ls : Array Slot), va_P D vwCl (W5 k ad (σ) ++ WB k wb 16 wt) H → va_D A (W5 k ad (σ) ++ WB k wb 16 wt) → va_S A s.heap H locs → lv_has ls 4 [(0, .ref (ad 0)), (1, .int x1), (2, .ref (wb 0)), (3, .int x3)] → lp_5 (q_X5_value_48 post px (q_X5_value_85 post px)) n_48 x1 x3 wb wt σ → W p l e rm_X5_value s m args below meth c H locs 2 20 Q (F0 m 48 ls []) := by
    intro n_48
    induction n_48 with
    | zero => intro x1 x3 wb wt σ H locs ls hP hD hS hl hp; exact hp.elim
    | succ n_48 ih_48 =>
      have B_79 : ∀ (x1 : Int32) (x3 : Int32) (wb : (Nat → Nat)) (wt : Mem) (σ : Mem) (H : Heap) (locs : List Loc) (ls : Array Slot), va_P D vwCl (W5 k ad (σ) ++ WB k wb 16 wt) H → va_D A (W5 k ad (σ) ++ WB k wb 16 wt) → va_S A s.heap H locs → lv_has ls 4 [(0, .ref (ad 0)), (1, .int x1), (2, .ref (wb 0)), (3, .int x3)] → (q_X5_value_79 post px (q_X5_value_85 post px) (lp_5 (q_X5_value_48 post px (q_X5_value_85 post px)) n_48)) x1 x3 wb wt σ → W p l e rm_X5_value s m args below meth c H locs 2 20 Q (F0 m 79 ls []) := by
        intro x1 x3 wb wt σ H locs ls hP hD hS hl hp
        unfold q_X5_value_79 at hp
        obtain ⟨v30001, ev30001⟩ : ∃ z : Int32, z = x3 + 1 := ⟨_, rfl⟩
        have hp := hp v30001 ev30001
        refine lv_iinc (v := v30001) (lv' := [(3, .int v30001), (0, .ref (ad 0)), (1, .int x1), (2, .ref (wb 0))]) hx hb dX5_value_79 hl (k := 3) rfl (by rw [ev30001]; rfl) (by decide) rfl (fun ls hl => ?_)
        refine lv_goto (tgt := 48) hx hb dX5_value_82 (by decide) ?_
        exact ih_48 x1 v30001 wb wt (σ) _ _ _  hP hD hS (lv_sub hl [1, 2, 3, 0] rfl) hp
      intro x1 x3 wb wt σ H locs ls hP hD hS hl hp
      have hp : q_X5_value_48 post px (q_X5_value_85 post px) (lp_5 (q_X5_value_48 post px (q_X5_value_85 post px)) n_48) x1 x3 wb wt σ := hp
      unfold q_X5_value_48 at hp
      refine lv_iload_n hx hb dX5_value_48 rfl (lv_at hl 3 rfl) ?_
      refine lv_bipush (v := 8) hx hb dX5_value_49 (by decide) ?_
      refine lv_icmp_ge (tgt := 85) hx hb dX5_value_51 (by decide) (fun c20001 => ?_) (fun c20001 => ?_)
      · have hp := hp.1 c20001
        exact B_85 x1 wb wt (σ) _ _ _  hP hD hS (lv_sub hl [0, 1, 2] rfl) hp
      · have hp := hp.2 c20001
        refine lv_aload_n hx hb dX5_value_54 rfl (lv_at hl 0 rfl) ?_
        refine va_get (D := D) (ci := 9) (C := RX5) (T := TX5) (N := 4) hx hb hts hin_X5 hown hK hP 0 rfl rfl 1 (by decide) hf_21 (fun _ h9 => h9) rfl dX5_value_55 ?_
        refine va_get (D := D) (ci := 8) (C := RX4) (T := TX4) (N := 7) hx hb hts hin_X4 hown hK hP 11 rfl rfl 1 (by decide) hf_113 (fun _ h9 => h9) rfl dX5_value_58 ?_
        refine va_get (D := D) (ci := 7) (C := RX3) (T := TX3) (N := 3) hx hb hts hin_X3 hown hK hP 12 rfl rfl 1 (by decide) hf_168 (fun _ h9 => h9) rfl dX5_value_61 ?_
        refine lv_iload_n hx hb dX5_value_64 rfl (lv_at hl 1 rfl) ?_
        obtain ⟨h20002, hp⟩ := hp
        refine va_iald hx hb hK hP 13 0 rfl rfl h20002 dX5_value_65 ?_
        refine lv_iload_n hx hb dX5_value_66 rfl (lv_at hl 3 rfl) ?_
        refine fw_ciS (As := [.int ((σ) 13 x1.toNatClampNeg), .int x3]) (rest := []) hC (c_X5_contains l D k hp) (va_cwS 2 hts (gA_S A_257 A_24 A_25 A_14) rfl rfl rfl (by decide +kernel) ⟨Nat.le_of_ble_eq_true rfl, Nat.le_of_ble_eq_true rfl⟩) rfl hl.1 rfl (Nat.le_of_ble_eq_true rfl) dX5_value_67 ⟨Nat.le_of_ble_eq_true rfl, Nat.le_of_ble_eq_true rfl⟩ P_nil D_nil hS (Jn.pure (w0 := fun _ : Mem => []) hP hD) (fun r20003 σ20004 H locs hP hD hS hp => ?_)
        have hP : va_P D vwCl (W5 k ad (σ) ++ WB k wb 16 wt) H := hP
        have hD : va_D A (W5 k ad (σ) ++ WB k wb 16 wt) := hD
        refine lv_if_eq (tgt := 79) hx hb dX5_value_70 (by decide) (fun c20005 => ?_) (fun c20005 => ?_)
        · have hp := hp.1 c20005
          exact B_79 x1 x3 wb wt (σ) _ _ _  hP hD hS (lv_sub hl [0, 1, 2, 3] rfl) hp
        · have hp := hp.2 c20005
          refine lv_aload_n hx hb dX5_value_73 rfl (lv_at hl 2 rfl) ?_
          refine lv_iload_n hx hb dX5_value_74 rfl (lv_at hl 3 rfl) ?_
          refine fw_crV (wf := fun u : Mem => WB k wb 16 u) (wN := fun u : Mem => W5 k ad (σ) ++ WB k wb 16 u) (As := [.int x3]) (rest := []) hC (c_J4_append_bf812 l D k wb 16 hp) (cwV 1 hts (gA_V A_509 A_510 A_511 A_458 A_448) rfl rfl rfl (by decide +kernel) ⟨(Nat.le_of_ble_eq_true rfl), (Nat.le_of_ble_eq_true rfl)⟩) (va_recv hK hP (ci := 1) (q0 := 45) rfl rfl) rfl hl.1 rfl (Nat.le_of_ble_eq_true rfl) dX5_value_75 ⟨(Nat.le_of_ble_eq_true rfl), (Nat.le_of_ble_eq_true rfl)⟩ (P_right hP) (D_right hD) hS (Jn.right hP hD) (fun r20006 τ20007 H locs hP hD hS hp => ?_)
          obtain ⟨hr9, hp⟩ := hp
          subst hr9
          refine lv_pop hx hb dX5_value_78 rfl ?_
          exact B_79 x1 x3 wb (τ20007) (σ) _ _ _  hP hD hS (lv_sub hl [0, 1, 2, 3] rfl) hp
  have B_46 : ∀ (x1 : Int32) (wb : (Nat → Nat)) (wt : Mem) (σ : Mem) (H : Heap) (locs : List Loc) (ls : Array Slot), va_P D vwCl (W5 k ad (σ) ++ WB k wb 16 wt) H → va_D A (W5 k ad (σ) ++ WB k wb 16 wt) → va_S A s.heap H locs → lv_has ls 4 [(0, .ref (ad 0)), (1, .int x1), (2, .ref (wb 0))] → (q_X5_value_46 post px) x1 wb wt σ → W p l e rm_X5_value s m args below meth c H locs 2 20 Q (F0 m 46 ls []) := by
    intro x1 wb wt σ H locs ls hP hD hS hl hp
    unfold q_X5_value_46 at hp
    refine lv_iconst (v := 0) hx hb dX5_value_46 (by decide) ?_
    refine lv_istore_n (lv' := [(3, .int 0), (0, .ref (ad 0)), (1, .int x1), (2, .ref (wb 0))]) hx hb dX5_value_47 rfl hl (by decide) rfl (fun ls hl => ?_)
    obtain ⟨n9, hp⟩ := hp
    exact B_48 n9 x1 0 wb wt (σ) _ _ _  hP hD hS (lv_sub hl [1, 2, 3, 0] rfl) hp
  refine lv_aload_n hx hb dX5_value_0 rfl (lv_at hl 0 rfl) ?_
  refine lv_iload_n hx hb dX5_value_1 rfl (lv_at hl 1 rfl) ?_
  refine fw_ciV (As := [.int p1]) (rest := []) hC (c_X5_isField l D k ad hp) (cwV 1 hts (gA_V A_220 A_221 A_222 A_25 A_212) rfl rfl rfl (by decide +kernel) ⟨Nat.le_of_ble_eq_true rfl, Nat.le_of_ble_eq_true rfl⟩) (va_recv hK hP (ci := 9) (q0 := 0) rfl rfl) rfl hl.1 rfl (Nat.le_of_ble_eq_true rfl) dX5_value_2 ⟨Nat.le_of_ble_eq_true rfl, Nat.le_of_ble_eq_true rfl⟩ hP hD hS Jn.same (fun r1 σ2 H locs hP hD hS hp => ?_)
  have hP : va_P D vwCl (W5 k ad (σ2)) H := hP
  have hD : va_D A (W5 k ad (σ2)) := hD
  refine lv_if_ne (tgt := 18) hx hb dX5_value_5 (by decide) (fun c3 => ?_) (fun c3 => ?_)
  · have hp := hp.1 c3
    refine va_new (ci := 1) (fs := [.null, .int 0, .int 0, .int 0]) (C := RJ4) (T := TJ4) (N := 4) hx hb hts hin_J4 tyJ4 tyJ4_ok hown (hts _ (List.mem_cons_of_mem _ A_503)) (hts _ (List.mem_cons_of_mem _ A_457)) (hts _ (List.mem_cons_of_mem _ A_458)) hK hP hD hS hA rfl (fun j hj => by rcases (show j = 0 ∨ j = 1 ∨ j = 2 ∨ j = 3 by omega) with rfl | rfl | rfl | rfl <;> rfl) (Nat.le_of_ble_eq_true rfl) (Nat.le_of_ble_eq_true rfl) dX5_value_18 (fun q9 H hP hD hS => ?_)
    refine lv_dup hx hb dX5_value_21 rfl ?_
    refine fw_cvI (S := Nat → Nat) (post := fun _ => True) (wf := fun u : Nat → Nat => wv_J4_init_da8c8 k q9 u) (wN := fun u : Nat → Nat => W5 k ad (σ2) ++ wv_J4_init_da8c8 k q9 u) (As := []) (rest := [.ref q9]) hC (c_J4_init_da8c8 l D k q9) (cwI 0 hts (gA_0 A_319) rfl rfl rfl (hts _ (List.mem_cons_of_mem _ A_458)) (hts _ (List.mem_cons_of_mem _ A_504)) (hts _ (List.mem_cons_of_mem _ A_505)) rfl (by decide +kernel) ⟨(Nat.le_of_ble_eq_true rfl), (Nat.le_of_ble_eq_true rfl)⟩) rfl hl.1 rfl (Nat.le_of_ble_eq_true rfl) dX5_value_22 ⟨(Nat.le_of_ble_eq_true rfl), (Nat.le_of_ble_eq_true rfl)⟩ (P_right hP) (D_right hD) hS (Jn.right hP hD) (fun u9 H locs hP hD hS _ => ?_)
    obtain ⟨bd, hb0, hP9, hD9⟩ : ∃ bd : Nat → Nat, bd 0 = q9 ∧ va_P D vwCl (W5 k ad (σ2) ++ WB k bd 16 (fun _ _ => 0)) H ∧ va_D A (W5 k ad (σ2) ++ WB k bd 16 (fun _ _ => 0)) := ⟨fun i => if i = 0 then q9 else u9 0, rfl, hP, hD⟩
    subst hb0
    have hP := hP9
    have hD := hD9
    have hp := hp bd
    refine lv_astore_n (lv' := [(2, .ref (bd 0)), (0, .ref (ad 0)), (1, .int p1)]) hx hb dX5_value_25 rfl hl (by decide) rfl (fun ls hl => ?_)
    refine lv_aload_n hx hb dX5_value_26 rfl (lv_at hl 1 rfl) ?_
    refine va_get (D := D) (ci := 9) (C := RX5) (T := TX5) (N := 4) hx hb hts hin_X5 hown hK hP 0 rfl rfl 1 (by decide) hf_21 (fun _ h9 => h9) rfl dX5_value_27 ?_
    refine va_get (D := D) (ci := 8) (C := RX4) (T := TX4) (N := 7) hx hb hts hin_X4 hown hK hP 11 rfl rfl 1 (by decide) hf_113 (fun _ h9 => h9) rfl dX5_value_30 ?_
    refine va_get (D := D) (ci := 7) (C := RX3) (T := TX3) (N := 3) hx hb hts hin_X3 hown hK hP 12 rfl rfl 2 (by decide) hf_117 (fun _ h9 => h9) rfl dX5_value_33 ?_
    refine lv_if_eq (tgt := 46) hx hb dX5_value_36 (by decide) (fun c4 => ?_) (fun c4 => ?_)
    · have hp := hp.1 c4
      exact B_46 p1 bd (fun _ _ => 0) (σ2) _ _ _  hP hD hS (lv_sub hl [1, 2, 0] rfl) hp
    · have hp := hp.2 c4
      refine lv_aload_n hx hb dX5_value_39 rfl (lv_at hl 0 rfl) ?_
      refine lv_bipush (v := 33) hx hb dX5_value_40 (by decide) ?_
      refine fw_crV (wf := fun u : Mem => WB k bd 16 u) (wN := fun u : Mem => W5 k ad (σ2) ++ WB k bd 16 u) (As := [.int 33]) (rest := []) hC (c_J4_append_cf468 l D k bd 16 hp) (cwV 1 hts (gA_V A_506 A_507 A_508 A_458 A_418) rfl rfl rfl (by decide +kernel) ⟨(Nat.le_of_ble_eq_true rfl), (Nat.le_of_ble_eq_true rfl)⟩) (va_recv hK hP (ci := 1) (q0 := 45) rfl rfl) rfl hl.1 rfl (Nat.le_of_ble_eq_true rfl) dX5_value_42 ⟨(Nat.le_of_ble_eq_true rfl), (Nat.le_of_ble_eq_true rfl)⟩ (P_right hP) (D_right hD) hS (Jn.right hP hD) (fun r5 τ6 H locs hP hD hS hp => ?_)
      obtain ⟨hr9, hp⟩ := hp
      subst hr9
      refine lv_pop hx hb dX5_value_45 rfl ?_
      exact B_46 p1 bd (τ6) (σ2) _ _ _  hP hD hS (lv_sub hl [1, 2, 0] rfl) hp
  · have hp := hp.2 c3
    exact hthr "java/lang/IndexOutOfBoundsException" "no such field" ["java/lang/RuntimeException", "java/lang/Exception"] 65 67 69 (k (1000 + 67)) (σ2) _ _ _ _ _ _ _ (by decide +kernel) (by decide +kernel) (hts _ (List.mem_cons_of_mem _ A_217)) (hts _ (List.mem_cons_of_mem _ A_218)) (GG.sx hG 15 rfl) (hat_69 (fun w h => hts w (List.mem_cons_of_mem _ h)) (GG.nc hG (q := ("java/lang/IndexOutOfBoundsException", "java/lang/IndexOutOfBoundsException")) 6 rfl) (GG.nd hG)) vO_69 hl.1 dX5_value_8 dX5_value_11 dX5_value_12 dX5_value_14 dX5_value_17 (Nat.le_of_ble_eq_true rfl) (Nat.le_of_ble_eq_true rfl) (Nat.le_of_ble_eq_true rfl) (Nat.le_of_ble_eq_true rfl) hP hD hS (Nat.le_of_ble_eq_true rfl) (Nat.le_of_ble_eq_true rfl) hp
