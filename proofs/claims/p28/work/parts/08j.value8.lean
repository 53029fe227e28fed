theorem va_ldcwS {p : Program} {l : Launch} {e : Env} {R : Room} {s : State} {m : MethodId} {args : Array Value} {below : List Frame} {meth : Method} {c : Code} {H : Heap} {locs : List Loc} {cells slots : Nat} {Q : State → Prop} {cc : ByteArray} {pc : Nat} {ls : Array Slot} {rest : List Value} (hexec : p.tables.exec = Jvm.exec) (hb : c.code = cc) {own tx : String} {index q : Nat} (hown : s.vm.findClass own = some m.cls) (hZ : vk_R own index tx q s) (hdg : decode cc pc = .ok (.ldc_w index, 3))
    (k : W p l e R s m args below meth c H locs cells slots Q (F0 m (pc + 3) ls (.ref q :: rest))) : W p l e R s m args below meth c H locs cells slots Q (F0 m pc ls rest) := by
  intro T hT X
  obtain ⟨t, a1, b1⟩ := k T hT X
  refine ⟨t, ?_, b1⟩
  have hdg' : decode c.code (F0 m pc ls rest).pc = .ok (.ldc_w index, 3) := by rw [hb]; exact hdg
  obtain ⟨k0, cf, i, a', hk, hcf, hcp, -, hr, hev'⟩ := Cond.stringRef_spec (args := #[]) hown hZ.1
  have h9 := hZ.2
  cases h9.symm.trans hev'
  obtain ⟨k', hk', he⟩ := X.warmed.alike.2.2 _ _ hk
  have hr' : k'.resolved[index]? = some (some (.string q)) := by
    rcases X.warmed.entry hk hk' index with h | ⟨h, -⟩
    · rw [h]; exact hr
    · rw [hr] at h; cases h
  have main : ∀ target, Steps p.tables e below (T.setTop { (F0 m pc ls rest) with pc := pc + 3, stack := .ref q :: rest }) target → Steps p.tables e below (T.setTop (F0 m pc ls rest)) target := by
    intro target hrest
    jvm_step X.here [hexec, hdg', ldc_w.wp_string (e := e) (s := T) (f := F0 m pc ls rest) X.here.top hk' (by rw [he]; exact hcf) hcp hr']
    exact hrest
  exact main t a1

def q_X8_value_111 (n : Nat) (c : Nat) (post : Nat → Mem → Prop)  (wb : (Nat → Nat)) (wt : Mem) (wn : Nat) (σ : Mem) : Prop := (∃ c7 : Nat, (c7 < wn ∧ wn ≤ 64 ∧ sb_Fit (wt 1) ∧ wt 0 1 = 0 ∧ wt 0 3 = nI c7) ∧ (∀ r5001 : Nat, post r5001 (σ)))
def q_X8_value_86 (n : Nat) (c : Nat) (post : Nat → Mem → Prop)  (x1 : Int32) (wb : (Nat → Nat)) (wt : Mem) (wn : Nat) (σ : Mem) : Prop := (q_X8_whatIs n c (fun (r4001 : Int32) (σ4002 : Mem) => ((r4001 = (-1) → (q_X8_value_111 n c post) wb wt wn (σ4002)) ∧ (¬ (r4001 = (-1)) → (q_J4_append_cf468 wb wn (fun (r4004 : Nat) (τ4005 : Mem) => r4004 = wb 0 ∧ (q_J4_append_bf812 wb wn (fun (r4006 : Nat) (τ4007 : Mem) => r4006 = wb 0 ∧ (q_X8_value_111 n c post) wb (τ4007) wn (σ4002)) r4001 (τ4005))) 61 wt)))) x1 (σ))
def q_X8_value_80 (n : Nat) (c : Nat) (post : Nat → Mem → Prop) (kE_86 : Int32 → (Nat → Nat) → Mem → Nat → Mem → Prop) (kc_56 : Int32 → Int32 → Int32 → (Nat → Nat) → Mem → Nat → Mem → Prop) (x1 : Int32) (x2 : Int32) (x4 : Int32) (wb : (Nat → Nat)) (wt : Mem) (wn : Nat) (σ : Mem) : Prop := (∀ v3001 : Int32, v3001 = x4 + 1 → kc_56 x1 x2 v3001 wb wt wn (σ))
def q_X8_value_56 (n : Nat) (c : Nat) (post : Nat → Mem → Prop) (kE_86 : Int32 → (Nat → Nat) → Mem → Nat → Mem → Prop) (kc_56 : Int32 → Int32 → Int32 → (Nat → Nat) → Mem → Nat → Mem → Prop) (x1 : Int32) (x2 : Int32) (x4 : Int32) (wb : (Nat → Nat)) (wt : Mem) (wn : Nat) (σ : Mem) : Prop := ((8 ≤ x4 → kE_86 x1 wb wt wn (σ)) ∧ (¬ (8 ≤ x4) → ((((x2 >>> (x4 &&& 31)) &&& 1) ≠ 1 → (q_X8_value_80 n c post kE_86 kc_56) x1 x2 x4 wb wt wn (σ)) ∧ (((x2 >>> (x4 &&& 31)) &&& 1) = 1 → (q_J4_append_bf812 wb wn (fun (r2003 : Nat) (τ2004 : Mem) => r2003 = wb 0 ∧ (q_X8_value_80 n c post kE_86 kc_56) x1 x2 x4 wb (τ2004) wn (σ)) x4 wt)))))
def q_X8_value_14 (n : Nat) (c : Nat) (post : Nat → Mem → Prop)  (s0 : Int32) (x1 : Int32) (σ : Mem) : Prop := (∀ σ1001 : Mem, σ1001 = mst (σ) 0 0 s0 → ((((σ1001) 0 0) ≤ 0 → (q_X8_mayBe n c (fun (r1003 : Int32) (σ1004 : Mem) => ((r1003 ≠ 0 → (∀ (q9 : Nat) (bd : Nat → Nat), bd 0 = q9 → q_J4_append_cf1ce bd (([0, 1] : List Nat).getD 0 0 + 16) 0 (fun (_ : Nat) (τ0 : Mem) => bd 0 = q9 ∧ (∃ n9 : Nat, lp_7 (q_X8_value_56 n c post (q_X8_value_86 n c post)) n9 x1 r1003 0 bd (τ0) (([0, 1] : List Nat).getD 0 0 + 16) (σ1004))) (fun _ _ => 0))) ∧ (r1003 = 0 → (∀ (q9 : Nat) (bd : Nat → Nat), bd 0 = q9 → q_J4_append_cf1ce bd (([0, 1] : List Nat).getD 1 0 + 16) 1 (fun (_ : Nat) (τ0 : Mem) => bd 0 = q9 ∧ (∃ n9 : Nat, lp_7 (q_X8_value_56 n c post (q_X8_value_86 n c post)) n9 x1 r1003 0 bd (τ0) (([0, 1] : List Nat).getD 1 0 + 16) (σ1004))) (fun _ _ => 0))))) x1 (σ1001))) ∧ (¬ (((σ1001) 0 0) ≤ 0) → (∀ r9 : Nat, post r9 (σ1001)))))
def q_X8_value (n : Nat) (c : Nat) (post : Nat → Mem → Prop) (p1 : Int32) (σ : Mem) : Prop := (q_X8_isField n c (fun (r1 : Int32) (σ2 : Mem) => ((r1 = 0 → (q_X8_value_14 n c post) 1 p1 (σ2)) ∧ (¬ (r1 = 0) → (q_X8_value_14 n c post) 0 p1 (σ2)))) p1 (σ))
abbrev rm_X8_value : Room := { frames := 8, cells := 4, slots := 92, locals := 355 }
abbrev wq_X8_value : List Cond := Cond.code yX8_value cX8_value 5 (some (.object "java/lang/String")) :: wALL
set_option maxHeartbeats 4000000 in
set_option maxRecDepth 100000 in
theorem c_X8_value (l : Launch) (D : va_G) (k ad g : Nat → Nat) (hg : gok g) {sz : Nat} {σ : Mem} {p1 : Int32} {post : Nat → Mem → Prop} (hp : q_X8_value (g 0) (g 2) post p1 σ) : Met l yX8_value wq_X8_value rm_X8_value (va_Pc [.ref (ad 0), .int p1] (Pw D k (WM k ad g (σ)) sz)) (va_Qr (fun z : Nat × Mem => post z.1 z.2) (fun z a t => a = z.1 ∧ Bw D (WM k ad g (σ)) sz (WM k ad g z.2) t) (va_A (WM k ad g (σ)) sz)) 4 92 (va_A (WM k ad g (σ)) sz) := by
  refine fw_r (Or.inl ⟨_, rfl⟩) (wf := fun u : Mem => WM k ad g u) (by decide) rfl (Nat.le_of_ble_eq_true rfl) ?_
  intro p e s m args below meth c A Q ls hC hP hD hl hret
  obtain ⟨⟨hx, hb, hml, hown, hts⟩, hG, hA⟩ := id hC
  have hK := hG.1
  have hS : va_S A s.heap s.heap [] := va_S.rf
  have hin_X8 : ∀ w ∈ u_ws RX8 TX8 15, w ∈ wq_X8_value := fun w h => List.mem_cons_of_mem _ (iU_X8 w h)
  have hf_41 := hts _ (List.mem_cons_of_mem _ A_595)
  have hin_J4 : ∀ w ∈ u_ws RJ4 TJ4 4, w ∈ wq_X8_value := fun w h => List.mem_cons_of_mem _ (iU_J4 w h)
  have hl : lv_has ls 5 [(0, .ref (ad 0)), (1, .int p1)] := hl
  have hown : s.vm.findClass RX8 = some m.cls := hown
  unfold q_X8_value at hp
  have B_111 : ∀ (wb : (Nat → Nat)) (wt : Mem) (wn : Nat) (σ : Mem) (H : Heap) (locs : List Loc) (ls : Array Slot), va_P D vwCl (WM k ad g (σ) ++ WB k wb wn wt) H → va_D A (WM k ad g (σ) ++ WB k wb wn wt) → va_S A s.heap H locs → lv_has ls 5 [(3, .ref (wb 0))] → (q_X8_value_111 (g 0) (g 2) post) wb wt wn σ → W p l e rm_X8_value s m args below meth c H locs 2 24 Q (F0 m 111 ls []) := by
    intro wb wt wn σ H locs ls hP hD hS hl hp
    unfold q_X8_value_111 at hp
    refine lv_aload_n hx hb dX8_value_111 rfl (lv_at hl 0 rfl) ?_
    obtain ⟨c7, ⟨hc7, hn7, hf7, e17, e37⟩, hp⟩ := hp
    refine fw_crV (S := Nat × Nat) (post := fun r u => r = u.1) (wf := fun u : Nat × Nat => (WB k wb wn wt ++ [(u.1, .inr (0, [.ref u.2, .int 0, .int 0, .int 0]))]) ++ [(u.2, .inl (k 4, c7, .inl (va_cpy (wt 1) (fun _ => 0) 0 0 c7)))]) (wN := fun u : Nat × Nat => WM k ad g (σ) ++ ((WB k wb wn wt ++ [(u.1, .inr (0, [.ref u.2, .int 0, .int 0, .int 0]))]) ++ [(u.2, .inl (k 4, c7, .inl (va_cpy (wt 1) (fun _ => 0) 0 0 c7)))])) (As := []) (rest := []) hC (c_tos l D k wb wn c7 wt hc7 hn7 hf7 e17 e37) (cwV 0 hts (gA_V A_921 A_513 A_514 A_458 A_502) rfl rfl rfl (by decide +kernel) ⟨(Nat.le_of_ble_eq_true rfl), (Nat.le_of_ble_eq_true rfl)⟩) (va_recv hK (P_right hP) (ci := 1) (q0 := 0) rfl rfl) rfl hl.1 rfl (Nat.le_of_ble_eq_true rfl) dX8_value_112 ⟨(Nat.le_of_ble_eq_true rfl), (Nat.le_of_ble_eq_true rfl)⟩ (P_right hP) (D_right hD) hS (Jn.right hP hD) (fun r50001 u9 H locs hP hD hS _ => ?_)
    have hP := P_left hP
    have hD := D_left hD
    have hp := hp r50001
    exact hret r50001 (σ) _ _ _ _ _ _ dX8_value_115 hP hD hS (Nat.le_of_ble_eq_true rfl) (Nat.le_of_ble_eq_true rfl) hp
  have B_86 : ∀ (x1 : Int32) (wb : (Nat → Nat)) (wt : Mem) (wn : Nat) (σ : Mem) (H : Heap) (locs : List Loc) (ls : Array Slot), va_P D vwCl (WM k ad g (σ) ++ WB k wb wn wt) H → va_D A (WM k ad g (σ) ++ WB k wb wn wt) → va_S A s.heap H locs → lv_has ls 5 [(0, .ref (ad 0)), (1, .int x1), (3, .ref (wb 0))] → (q_X8_value_86 (g 0) (g 2) post) x1 wb wt wn σ → W p l e rm_X8_value s m args below meth c H locs 2 24 Q (F0 m 86 ls []) := by
    intro x1 wb wt wn σ H locs ls hP hD hS hl hp
    unfold q_X8_value_86 at hp
    refine lv_aload_n hx hb dX8_value_86 rfl (lv_at hl 0 rfl) ?_
    refine lv_iload_n hx hb dX8_value_87 rfl (lv_at hl 1 rfl) ?_
    refine fw_ciV (As := [.int x1]) (rest := []) hC (c_X8_whatIs l D k ad g hg hp) (cwV 1 hts (gA_V A_802 A_803 A_804 A_601 A_759) rfl rfl rfl (by decide +kernel) ⟨Nat.le_of_ble_eq_true rfl, Nat.le_of_ble_eq_true rfl⟩) (va_recv hK hP (ci := 12) (q0 := 0) rfl rfl) rfl hl.1 rfl (Nat.le_of_ble_eq_true rfl) dX8_value_88 ⟨Nat.le_of_ble_eq_true rfl, Nat.le_of_ble_eq_true rfl⟩ (P_left hP) (D_left hD) hS (Jn.left hP hD) (fun r40001 σ40002 H locs hP hD hS hp => ?_)
    have hP : va_P D vwCl (WM k ad g (σ40002) ++ WB k wb wn wt) H := hP
    have hD : va_D A (WM k ad g (σ40002) ++ WB k wb wn wt) := hD
    refine lv_istore (lv' := [(4, .int r40001), (0, .ref (ad 0)), (1, .int x1), (3, .ref (wb 0))]) hx hb dX8_value_91 hl (by decide) rfl (fun ls hl => ?_)
    refine lv_iload hx hb dX8_value_93 (lv_at hl 0 rfl) ?_
    refine lv_iconst (v := (-1)) hx hb dX8_value_95 (by decide) ?_
    refine lv_icmp_eq (tgt := 111) hx hb dX8_value_96 (by decide) (fun c40003 => ?_) (fun c40003 => ?_)
    · have hp := hp.1 c40003
      exact B_111 wb wt wn (σ40002) _ _ _  hP hD hS (lv_sub hl [3] rfl) hp
    · have hp := hp.2 c40003
      refine lv_aload_n hx hb dX8_value_99 rfl (lv_at hl 3 rfl) ?_
      refine lv_bipush (v := 61) hx hb dX8_value_100 (by decide) ?_
      refine fw_crV (wf := fun u : Mem => WB k wb wn u) (wN := fun u : Mem => WM k ad g (σ40002) ++ WB k wb wn u) (As := [.int 61]) (rest := []) hC (c_J4_append_cf468 l D k wb wn hp) (cwV 1 hts (gA_V A_920 A_507 A_508 A_458 A_418) rfl rfl rfl (by decide +kernel) ⟨(Nat.le_of_ble_eq_true rfl), (Nat.le_of_ble_eq_true rfl)⟩) (va_recv hK (P_right hP) (ci := 1) (q0 := 0) rfl rfl) rfl hl.1 rfl (Nat.le_of_ble_eq_true rfl) dX8_value_102 ⟨(Nat.le_of_ble_eq_true rfl), (Nat.le_of_ble_eq_true rfl)⟩ (P_right hP) (D_right hD) hS (Jn.right hP hD) (fun r40004 τ40005 H locs hP hD hS hp => ?_)
      obtain ⟨hr9, hp⟩ := hp
      subst hr9
      refine lv_iload hx hb dX8_value_105 (lv_at hl 0 rfl) ?_
      refine fw_crV (wf := fun u : Mem => WB k wb wn u) (wN := fun u : Mem => WM k ad g (σ40002) ++ WB k wb wn u) (As := [.int r40001]) (rest := []) hC (c_J4_append_bf812 l D k wb wn hp) (cwV 1 hts (gA_V A_919 A_510 A_511 A_458 A_448) rfl rfl rfl (by decide +kernel) ⟨(Nat.le_of_ble_eq_true rfl), (Nat.le_of_ble_eq_true rfl)⟩) (va_recv hK (P_right hP) (ci := 1) (q0 := 0) rfl rfl) rfl hl.1 rfl (Nat.le_of_ble_eq_true rfl) dX8_value_107 ⟨(Nat.le_of_ble_eq_true rfl), (Nat.le_of_ble_eq_true rfl)⟩ (P_right hP) (D_right hD) hS (Jn.right hP hD) (fun r40006 τ40007 H locs hP hD hS hp => ?_)
      obtain ⟨hr9, hp⟩ := hp
      subst hr9
      refine lv_pop hx hb dX8_value_110 rfl ?_
      exact B_111 wb (τ40007) wn (σ40002) _ _ _  hP hD hS (lv_sub hl [3] rfl) hp
  have B_56 : ∀ (n_56 : Nat) (x1 : Int32) (x2 : Int32) (x4 : Int32) (wb : (Nat → Nat)) (wt : Mem) (wn : Nat) (σ : Mem) (H : Heap) (locs : List Loc) (ls : Array Slot), va_P D vwCl (WM k ad g (σ) ++ WB k wb wn wt) H → va_D A (WM k ad g (σ) ++ WB k wb wn wt) → va_S A s.heap H locs → lv_has ls 5 [(0, .ref (ad 0)), (1, .int x1), (2, .int x2), (3, .ref (wb 0)), (4, .int x4)] → lp_7 (q_X8_value_56 (g 0) (g 2) post (q_X8_value_86 (g 0) (g 2) post)) n_56 x1 x2 x4 wb wt wn σ → W p l e rm_X8_value s m args below meth c H locs 2 24 Q (F0 m 56 ls []) := by
    intro n_56
    induction n_56 with
    | zero => intro x1 x2 x4 wb wt wn σ H locs ls hP hD hS hl hp; exact hp.elim
    | succ n_56 ih_56 =>
      have B_80 : ∀ (x1 : Int32) (x2 : Int32) (x4 : Int32) (wb : (Nat → Nat)) (wt : Mem) (wn : Nat) (σ : Mem) (H : Heap) (locs : List Loc) (ls : Array Slot), va_P D vwCl (WM k ad g (σ) ++ WB k wb wn wt) H → va_D A (WM k ad g (σ) ++ WB k wb wn wt) → va_S A s.heap H locs → lv_has ls 5 [(0, .ref (ad 0)), (1, .int x1), (2, .int x2), (3, .ref (wb 0)), (4, .int x4)] → (q_X8_value_80 (g 0) (g 2) post (q_X8_value_86 (g 0) (g 2) post) (lp_7 (q_X8_value_56 (g 0) (g 2) post (q_X8_value_86 (g 0) (g 2) post)) n_56)) x1 x2 x4 wb wt wn σ → W p l e rm_X8_value s m args below meth c H locs 2 24 Q (F0 m 80 ls []) := by
        intro x1 x2 x4 wb wt wn σ H locs ls hP hD hS hl hp
        unfold q_X8_value_80 at hp
        obtain ⟨v30001, ev30001⟩ : ∃ z : Int32, z = x4 + 1 := ⟨_, rfl⟩
        have hp := hp v30001 ev30001
        refine lv_iinc (v := v30001) (lv' := [(4, .int v30001), (0, .ref (ad 0)), (1, .int x1), (2, .int x2), (3, .ref (wb 0))]) hx hb dX8_value_80 hl (k := 4) rfl (by rw [ev30001]; rfl) (by decide) rfl (fun ls hl => ?_)
        refine lv_goto (tgt := 56) hx hb dX8_value_83 (by decide) ?_
        exact ih_56 x1 x2 v30001 wb wt wn (σ) _ _ _  hP hD hS (lv_sub hl [1, 2, 3, 4, 0] rfl) hp
      intro x1 x2 x4 wb wt wn σ H locs ls hP hD hS hl hp
      have hp : q_X8_value_56 (g 0) (g 2) post (q_X8_value_86 (g 0) (g 2) post) (lp_7 (q_X8_value_56 (g 0) (g 2) post (q_X8_value_86 (g 0) (g 2) post)) n_56) x1 x2 x4 wb wt wn σ := hp
      unfold q_X8_value_56 at hp
      refine lv_iload hx hb dX8_value_56 (lv_at hl 4 rfl) ?_
      refine lv_bipush (v := 8) hx hb dX8_value_58 (by decide) ?_
      refine lv_icmp_ge (tgt := 86) hx hb dX8_value_60 (by decide) (fun c20001 => ?_) (fun c20001 => ?_)
      · have hp := hp.1 c20001
        exact B_86 x1 wb wt wn (σ) _ _ _  hP hD hS (lv_sub hl [0, 1, 3] rfl) hp
      · have hp := hp.2 c20001
        refine lv_iload_n hx hb dX8_value_63 rfl (lv_at hl 2 rfl) ?_
        refine lv_iload hx hb dX8_value_64 (lv_at hl 4 rfl) ?_
        refine lv_ishr hx hb dX8_value_66 ?_
        refine lv_iconst (v := 1) hx hb dX8_value_67 (by decide) ?_
        refine lv_iand hx hb dX8_value_68 ?_
        refine lv_iconst (v := 1) hx hb dX8_value_69 (by decide) ?_
        refine lv_icmp_ne (tgt := 80) hx hb dX8_value_70 (by decide) (fun c20002 => ?_) (fun c20002 => ?_)
        · have hp := hp.1 c20002
          exact B_80 x1 x2 x4 wb wt wn (σ) _ _ _  hP hD hS (lv_sub hl [0, 1, 2, 3, 4] rfl) hp
        · have hp := hp.2 c20002
          refine lv_aload_n hx hb dX8_value_73 rfl (lv_at hl 3 rfl) ?_
          refine lv_iload hx hb dX8_value_74 (lv_at hl 4 rfl) ?_
          refine fw_crV (wf := fun u : Mem => WB k wb wn u) (wN := fun u : Mem => WM k ad g (σ) ++ WB k wb wn u) (As := [.int x4]) (rest := []) hC (c_J4_append_bf812 l D k wb wn hp) (cwV 1 hts (gA_V A_919 A_510 A_511 A_458 A_448) rfl rfl rfl (by decide +kernel) ⟨(Nat.le_of_ble_eq_true rfl), (Nat.le_of_ble_eq_true rfl)⟩) (va_recv hK (P_right hP) (ci := 1) (q0 := 0) rfl rfl) rfl hl.1 rfl (Nat.le_of_ble_eq_true rfl) dX8_value_76 ⟨(Nat.le_of_ble_eq_true rfl), (Nat.le_of_ble_eq_true rfl)⟩ (P_right hP) (D_right hD) hS (Jn.right hP hD) (fun r20003 τ20004 H locs hP hD hS hp => ?_)
          obtain ⟨hr9, hp⟩ := hp
          subst hr9
          refine lv_pop hx hb dX8_value_79 rfl ?_
          exact B_80 x1 x2 x4 wb (τ20004) wn (σ) _ _ _  hP hD hS (lv_sub hl [0, 1, 2, 3, 4] rfl) hp
  have B_14 : ∀ (s0 : Int32) (x1 : Int32) (σ : Mem) (H : Heap) (locs : List Loc) (ls : Array Slot), va_P D vwCl (WM k ad g (σ)) H → va_D A (WM k ad g (σ)) → va_S A s.heap H locs → lv_has ls 5 [(0, .ref (ad 0)), (1, .int x1)] → (q_X8_value_14 (g 0) (g 2) post) s0 x1 σ → W p l e rm_X8_value s m args below meth c H locs 0 0 Q (F0 m 14 ls [.int s0, .ref (ad 0)]) := by
    intro s0 x1 σ H locs ls hP hD hS hl hp
    unfold q_X8_value_14 at hp
    refine va_put (D := D) (ci := 12) (v := .int s0) (ty := .int) (C := RX8) (T := TX8) (N := 15) hx hb hts hin_X8 tyX8 tyX8_ok nmX8 hown hK hP hD hS 0 rfl rfl 0 (by decide) hf_41 (fun _ h9 => h9) rfl (by decide +kernel) rfl rfl (Nat.le_of_ble_eq_true rfl) dX8_value_14 (fun H locs hP hD hS => ?_)
    obtain ⟨σ10001, eσ10001⟩ : ∃ z : Mem, z = mst (σ) 0 0 s0 := ⟨_, rfl⟩
    have hp := hp σ10001 eσ10001
    have hP : va_P D vwCl (WM k ad g (σ10001)) H := by rw [eσ10001, WM_s (by decide)]; exact hP
    have hD : va_D A (WM k ad g (σ10001)) := by rw [eσ10001, WM_s (by decide)]; exact hD
    refine lv_aload_n hx hb dX8_value_17 rfl (lv_at hl 0 rfl) ?_
    refine va_get (D := D) (ci := 12) (C := RX8) (T := TX8) (N := 15) hx hb hts hin_X8 hown hK hP 0 rfl rfl 0 (by decide) hf_41 (fun _ h9 => h9) rfl dX8_value_18 ?_
    refine lv_if_le (tgt := 27) hx hb dX8_value_21 (by decide) (fun c10002 => ?_) (fun c10002 => ?_)
    · have hp := hp.1 c10002
      refine lv_aload_n hx hb dX8_value_27 rfl (lv_at hl 0 rfl) ?_
      refine lv_iload_n hx hb dX8_value_28 rfl (lv_at hl 1 rfl) ?_
      refine fw_ciV (As := [.int x1]) (rest := []) hC (c_X8_mayBe l D k ad g hg hp) (cwV 1 hts (gA_V A_799 A_800 A_801 A_601 A_761) rfl rfl rfl (by decide +kernel) ⟨Nat.le_of_ble_eq_true rfl, Nat.le_of_ble_eq_true rfl⟩) (va_recv hK hP (ci := 12) (q0 := 0) rfl rfl) rfl hl.1 rfl (Nat.le_of_ble_eq_true rfl) dX8_value_29 ⟨Nat.le_of_ble_eq_true rfl, Nat.le_of_ble_eq_true rfl⟩ hP hD hS Jn.same (fun r10003 σ10004 H locs hP hD hS hp => ?_)
      have hP : va_P D vwCl (WM k ad g (σ10004)) H := hP
      have hD : va_D A (WM k ad g (σ10004)) := hD
      refine lv_istore_n (lv' := [(2, .int r10003), (0, .ref (ad 0)), (1, .int x1)]) hx hb dX8_value_32 rfl hl (by decide) rfl (fun ls hl => ?_)
      refine va_new (ci := 1) (fs := [.null, .int 0, .int 0, .int 0]) (C := RJ4) (T := TJ4) (N := 4) hx hb hts hin_J4 tyJ4 tyJ4_ok hown (hts _ (List.mem_cons_of_mem _ A_916)) (hts _ (List.mem_cons_of_mem _ A_457)) (hts _ (List.mem_cons_of_mem _ A_458)) hK hP hD hS hA rfl (fun j hj => by rcases (show j = 0 ∨ j = 1 ∨ j = 2 ∨ j = 3 by omega) with rfl | rfl | rfl | rfl <;> rfl) (Nat.le_of_ble_eq_true rfl) (Nat.le_of_ble_eq_true rfl) dX8_value_33 (fun q9 H hP hD hS => ?_)
      refine lv_dup hx hb dX8_value_36 rfl ?_
      refine lv_iload_n hx hb dX8_value_37 rfl (lv_at hl 0 rfl) ?_
      refine lv_if_ne (tgt := 47) hx hb dX8_value_38 (by decide) (fun c10005 => ?_) (fun c10005 => ?_)
      · have hp := hp.1 c10005
        refine va_ldcS hx hb hown hG.2.2.2.2.1.1 dX8_value_47 ?_
        have hp9 := hp q9
        refine fw_cvI (S := (Nat → Nat) × Mem) (wf := fun u : (Nat → Nat) × Mem => WB k u.1 (([0, 1] : List Nat).getD 0 0 + 16) u.2) (wN := fun u : (Nat → Nat) × Mem => WM k ad g (σ10004) ++ WB k u.1 (([0, 1] : List Nat).getD 0 0 + 16) u.2) (As := [.ref (k (30 + 0))]) (rest := [.ref q9]) hC (c_ki4 l D k 0 (by decide) q9 hp9) (cwI 1 hts (gA_0 A_915) rfl rfl rfl (hts _ (List.mem_cons_of_mem _ A_458)) (hts _ (List.mem_cons_of_mem _ A_917)) (hts _ (List.mem_cons_of_mem _ A_918)) rfl (by decide +kernel) ⟨(Nat.le_of_ble_eq_true rfl), (Nat.le_of_ble_eq_true rfl)⟩) rfl hl.1 rfl (Nat.le_of_ble_eq_true rfl) dX8_value_49 ⟨(Nat.le_of_ble_eq_true rfl), (Nat.le_of_ble_eq_true rfl)⟩ (P_right hP) (D_right hD) hS (Jn.right hP hD) (fun u9 H locs hP hD hS hp => ?_)
        obtain ⟨bd, τ0⟩ := u9
        have hP : va_P D vwCl (WM k ad g (σ10004) ++ WB k bd (([0, 1] : List Nat).getD 0 0 + 16) τ0) H := hP
        have hD : va_D A (WM k ad g (σ10004) ++ WB k bd (([0, 1] : List Nat).getD 0 0 + 16) τ0) := hD
        obtain ⟨hb0, hp⟩ := hp
        rw [← hb0]
        refine lv_astore_n (lv' := [(3, .ref (bd 0)), (2, .int r10003), (0, .ref (ad 0)), (1, .int x1)]) hx hb dX8_value_52 rfl hl (by decide) rfl (fun ls hl => ?_)
        refine lv_iconst (v := 0) hx hb dX8_value_53 (by decide) ?_
        refine lv_istore (lv' := [(4, .int 0), (3, .ref (bd 0)), (2, .int r10003), (0, .ref (ad 0)), (1, .int x1)]) hx hb dX8_value_54 hl (by decide) rfl (fun ls hl => ?_)
        obtain ⟨n9, hp⟩ := hp
        exact B_56 n9 x1 r10003 0 bd (τ0) (([0, 1] : List Nat).getD 0 0 + 16) (σ10004) _ _ _  hP hD hS (lv_sub hl [3, 4, 2, 1, 0] rfl) hp
      · have hp := hp.2 c10005
        refine va_ldcwS hx hb hown hG.2.2.2.2.1.2.1 dX8_value_41 ?_
        refine lv_goto (tgt := 49) hx hb dX8_value_44 (by decide) ?_
        have hp9 := hp q9
        refine fw_cvI (S := (Nat → Nat) × Mem) (wf := fun u : (Nat → Nat) × Mem => WB k u.1 (([0, 1] : List Nat).getD 1 0 + 16) u.2) (wN := fun u : (Nat → Nat) × Mem => WM k ad g (σ10004) ++ WB k u.1 (([0, 1] : List Nat).getD 1 0 + 16) u.2) (As := [.ref (k (30 + 1))]) (rest := [.ref q9]) hC (c_ki4 l D k 1 (by decide) q9 hp9) (cwI 1 hts (gA_0 A_915) rfl rfl rfl (hts _ (List.mem_cons_of_mem _ A_458)) (hts _ (List.mem_cons_of_mem _ A_917)) (hts _ (List.mem_cons_of_mem _ A_918)) rfl (by decide +kernel) ⟨(Nat.le_of_ble_eq_true rfl), (Nat.le_of_ble_eq_true rfl)⟩) rfl hl.1 rfl (Nat.le_of_ble_eq_true rfl) dX8_value_49 ⟨(Nat.le_of_ble_eq_true rfl), (Nat.le_of_ble_eq_true rfl)⟩ (P_right hP) (D_right hD) hS (Jn.right hP hD) (fun u9 H locs hP hD hS hp => ?_)
        obtain ⟨bd, τ0⟩ := u9
        have hP : va_P D vwCl (WM k ad g (σ10004) ++ WB k bd (([0, 1] : List Nat).getD 1 0 + 16) τ0) H := hP
        have hD : va_D A (WM k ad g (σ10004) ++ WB k bd (([0, 1] : List Nat).getD 1 0 + 16) τ0) := hD
        obtain ⟨hb0, hp⟩ := hp
        rw [← hb0]
        refine lv_astore_n (lv' := [(3, .ref (bd 0)), (2, .int r10003), (0, .ref (ad 0)), (1, .int x1)]) hx hb dX8_value_52 rfl hl (by decide) rfl (fun ls hl => ?_)
        refine lv_iconst (v := 0) hx hb dX8_value_53 (by decide) ?_
        refine lv_istore (lv' := [(4, .int 0), (3, .ref (bd 0)), (2, .int r10003), (0, .ref (ad 0)), (1, .int x1)]) hx hb dX8_value_54 hl (by decide) rfl (fun ls hl => ?_)
        obtain ⟨n9, hp⟩ := hp
        exact B_56 n9 x1 r10003 0 bd (τ0) (([0, 1] : List Nat).getD 1 0 + 16) (σ10004) _ _ _  hP hD hS (lv_sub hl [3, 4, 2, 1, 0] rfl) hp
    · have hp := hp.2 c10002
      refine va_ldcS hx hb hown hG.2.2.2.2.1.1 dX8_value_24 ?_
      exact hret (k (30 + 0)) (σ10001) _ _ _ _ _ _ dX8_value_26 hP hD hS (Nat.le_of_ble_eq_true rfl) (Nat.le_of_ble_eq_true rfl) (hp (k (30 + 0)))
  refine lv_aload_n hx hb dX8_value_0 rfl (lv_at hl 0 rfl) ?_
  refine lv_aload_n hx hb dX8_value_1 rfl (lv_at hl 0 rfl) ?_
  refine lv_iload_n hx hb dX8_value_2 rfl (lv_at hl 1 rfl) ?_
  refine fw_ciV (As := [.int p1]) (rest := [.ref (ad 0)]) hC (c_X8_isField l D k ad g hg hp) (cwV 1 hts (gA_V A_665 A_666 A_667 A_601 A_597) rfl rfl rfl (by decide +kernel) ⟨Nat.le_of_ble_eq_true rfl, Nat.le_of_ble_eq_true rfl⟩) (va_recv hK hP (ci := 12) (q0 := 0) rfl rfl) rfl hl.1 rfl (Nat.le_of_ble_eq_true rfl) dX8_value_3 ⟨Nat.le_of_ble_eq_true rfl, Nat.le_of_ble_eq_true rfl⟩ hP hD hS Jn.same (fun r1 σ2 H locs hP hD hS hp => ?_)
  have hP : va_P D vwCl (WM k ad g (σ2)) H := hP
  have hD : va_D A (WM k ad g (σ2)) := hD
  refine lv_if_eq (tgt := 13) hx hb dX8_value_6 (by decide) (fun c3 => ?_) (fun c3 => ?_)
  · have hp := hp.1 c3
    refine lv_iconst (v := 1) hx hb dX8_value_13 (by decide) ?_
    exact B_14 1 p1 (σ2) _ _ _  hP hD hS (lv_sub hl [0, 1] rfl) hp
  · have hp := hp.2 c3
    refine lv_iconst (v := 0) hx hb dX8_value_9 (by decide) ?_
    refine lv_goto (tgt := 14) hx hb dX8_value_10 (by decide) ?_
    exact B_14 0 p1 (σ2) _ _ _  hP hD hS (lv_sub hl [0, 1] rfl) hp
