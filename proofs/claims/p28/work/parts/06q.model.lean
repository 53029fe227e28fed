def q_X8_bound__34 (n : Nat) (c : Nat) (post : Int32 → Mem → Prop)  (x2 : Int32) (σ : Mem) : Prop := post x2 (σ)
def q_X8_bound__4 (n : Nat) (c : Nat) (post : Int32 → Mem → Prop) (kE_34 : Int32 → Mem → Prop) (kc_4 : Int32 → Int32 → Int32 → Mem → Prop) (x1 : Int32) (x2 : Int32) (x3 : Int32) (σ : Mem) : Prop := ((((σ) 0 3) ≤ x3 → kE_34 x2 (σ)) ∧ (¬ (((σ) 0 3) ≤ x3) → (vp_in x3 5 ∧ (q_X8_least n c (fun (r1003 : Int32) (σ1004 : Mem) => (∀ v1005 : Int32, v1005 = (x2 + (((σ) 2 x3.toNatClampNeg) * r1003)) → (∀ v1006 : Int32, v1006 = x3 + 1 → kc_4 x1 v1005 v1006 (σ1004)))) x1 x3 (σ)))))
def q_X8_bound_ (n : Nat) (c : Nat) (post : Int32 → Mem → Prop) (p1 : Int32) (σ : Mem) : Prop := (∃ n9 : Nat, lp_4 (q_X8_bound__4 n c post (q_X8_bound__34 n c post)) n9 p1 0 0 (σ))
abbrev rm_X8_bound_ : Room := { frames := 2, cells := 0, slots := 0, locals := 44 }
abbrev wq_X8_bound_ : List Cond := Cond.code yX8_bound_ cX8_bound_ 4 (some .int) :: wALL
set_option maxHeartbeats 4000000 in
set_option maxRecDepth 100000 in
theorem c_X8_bound_ (l : Launch) (D : va_G) (k ad g : Nat → Nat) (hg : gok g) {sz : Nat} {σ : Mem} {p1 : Int32} {post : Int32 → Mem → Prop} (hp : q_X8_bound_ (g 0) (g 2) post p1 σ) : Met l yX8_bound_ wq_X8_bound_ rm_X8_bound_ (va_Pc [.ref (ad 0), .int p1] (Pw D k (WM k ad g (σ)) sz)) (va_Qi post (fun u => Bw D (WM k ad g (σ)) sz (WM k ad g u)) (va_A (WM k ad g (σ)) sz)) 0 0 (va_A (WM k ad g (σ)) sz) := by
  refine fw_i (wf := fun u : Mem => WM k ad g u) (by decide) rfl (Nat.le_of_ble_eq_true rfl) ?_
  intro p e s m args below meth c A Q ls hC hP hD hl hret
  obtain ⟨⟨hx, hb, hml, hown, hts⟩, hG, hA⟩ := id hC
  have hK := hG.1
  have hS : va_S A s.heap s.heap [] := va_S.rf
  have hin_X8 : ∀ w ∈ u_ws RX8 TX8 15, w ∈ wq_X8_bound_ := fun w h => List.mem_cons_of_mem _ (iU_X8 w h)
  have hf_45 := hts _ (List.mem_cons_of_mem _ A_598)
  have hf_13 := hts _ (List.mem_cons_of_mem _ A_580)
  have hl : lv_has ls 4 [(0, .ref (ad 0)), (1, .int p1)] := hl
  have hown : s.vm.findClass RX8 = some m.cls := hown
  unfold q_X8_bound_ at hp
  have B_34 : ∀ (x2 : Int32) (σ : Mem) (H : Heap) (locs : List Loc) (ls : Array Slot), va_P D vwCl (WM k ad g (σ)) H → va_D A (WM k ad g (σ)) → va_S A s.heap H locs → lv_has ls 4 [(2, .int x2)] → (q_X8_bound__34 (g 0) (g 2) post) x2 σ → W p l e rm_X8_bound_ s m args below meth c H locs 0 0 Q (F0 m 34 ls []) := by
    intro x2 σ H locs ls hP hD hS hl hp
    unfold q_X8_bound__34 at hp
    refine lv_iload_n hx hb dX8_bound__34 rfl (lv_at hl 0 rfl) ?_
    exact hret x2 (σ) _ _ _ _ _ _ dX8_bound__35 rfl hP hD hS (Nat.le_of_ble_eq_true rfl) (Nat.le_of_ble_eq_true rfl) hp
  have B_4 : ∀ (n_4 : Nat) (x1 : Int32) (x2 : Int32) (x3 : Int32) (σ : Mem) (H : Heap) (locs : List Loc) (ls : Array Slot), va_P D vwCl (WM k ad g (σ)) H → va_D A (WM k ad g (σ)) → va_S A s.heap H locs → lv_has ls 4 [(0, .ref (ad 0)), (1, .int x1), (2, .int x2), (3, .int x3)] → lp_4 (q_X8_bound__4 (g 0) (g 2) post (q_X8_bound__34 (g 0) (g 2) post)) n_4 x1 x2 x3 σ → W p l e rm_X8_bound_ s m args below meth c H locs 0 0 Q (F0 m 4 ls []) := by
    intro n_4
    induction n_4 with
    | zero => intro x1 x2 x3 σ H locs ls hP hD hS hl hp; exact hp.elim
    | succ n_4 ih_4 =>
      intro x1 x2 x3 σ H locs ls hP hD hS hl hp
      have hp : q_X8_bound__4 (g 0) (g 2) post (q_X8_bound__34 (g 0) (g 2) post) (lp_4 (q_X8_bound__4 (g 0) (g 2) post (q_X8_bound__34 (g 0) (g 2) post)) n_4) x1 x2 x3 σ := hp
      unfold q_X8_bound__4 at hp
      refine lv_iload_n hx hb dX8_bound__4 rfl (lv_at hl 3 rfl) ?_
      refine lv_aload_n hx hb dX8_bound__5 rfl (lv_at hl 0 rfl) ?_
      refine va_get (D := D) (ci := 12) (C := RX8) (T := TX8) (N := 15) hx hb hts hin_X8 hown hK hP 0 rfl rfl 3 (by decide) hf_45 (fun _ h9 => h9) rfl dX8_bound__6 ?_
      refine lv_icmp_ge (tgt := 34) hx hb dX8_bound__9 (by decide) (fun c10001 => ?_) (fun c10001 => ?_)
      · have hp := hp.1 c10001
        exact B_34 x2 (σ) _ _ _  hP hD hS (lv_sub hl [2] rfl) hp
      · have hp := hp.2 c10001
        refine lv_iload_n hx hb dX8_bound__12 rfl (lv_at hl 2 rfl) ?_
        refine lv_aload_n hx hb dX8_bound__13 rfl (lv_at hl 0 rfl) ?_
        refine va_get (D := D) (ci := 12) (C := RX8) (T := TX8) (N := 15) hx hb hts hin_X8 hown hK hP 0 rfl rfl 2 (by decide) hf_13 (fun _ h9 => h9) rfl dX8_bound__14 ?_
        refine lv_iload_n hx hb dX8_bound__17 rfl (lv_at hl 3 rfl) ?_
        obtain ⟨h10002, hp⟩ := hp
        refine va_iald hx hb hK hP 2 0 rfl rfl h10002 dX8_bound__18 ?_
        refine lv_aload_n hx hb dX8_bound__19 rfl (lv_at hl 0 rfl) ?_
        refine lv_iload_n hx hb dX8_bound__20 rfl (lv_at hl 1 rfl) ?_
        refine lv_iload_n hx hb dX8_bound__21 rfl (lv_at hl 3 rfl) ?_
        refine fw_ciV (As := [.int x1, .int x3]) (rest := [.int ((σ) 2 x3.toNatClampNeg), .int x2]) hC (c_X8_least l D k ad g hg hp) (cwV 2 hts (gA_V A_756 A_757 A_758 A_601 A_698) rfl rfl rfl (by decide +kernel) ⟨Nat.le_of_ble_eq_true rfl, Nat.le_of_ble_eq_true rfl⟩) (va_recv hK hP (ci := 12) (q0 := 0) rfl rfl) rfl hl.1 rfl (Nat.le_of_ble_eq_true rfl) dX8_bound__22 ⟨Nat.le_of_ble_eq_true rfl, Nat.le_of_ble_eq_true rfl⟩ hP hD hS Jn.same (fun r10003 σ10004 H locs hP hD hS hp => ?_)
        have hP : va_P D vwCl (WM k ad g (σ10004)) H := hP
        have hD : va_D A (WM k ad g (σ10004)) := hD
        refine lv_imul hx hb dX8_bound__25 ?_
        refine lv_iadd hx hb dX8_bound__26 ?_
        refine lv_topi (fun v10005 ev10005 => ?_)
        have hp := hp v10005 ev10005
        refine lv_istore_n (lv' := [(2, .int v10005), (0, .ref (ad 0)), (1, .int x1), (3, .int x3)]) hx hb dX8_bound__27 rfl hl (by decide) rfl (fun ls hl => ?_)
        obtain ⟨v10006, ev10006⟩ : ∃ z : Int32, z = x3 + 1 := ⟨_, rfl⟩
        have hp := hp v10006 ev10006
        refine lv_iinc (v := v10006) (lv' := [(3, .int v10006), (2, .int v10005), (0, .ref (ad 0)), (1, .int x1)]) hx hb dX8_bound__28 hl (k := 3) rfl (by rw [ev10006]; rfl) (by decide) rfl (fun ls hl => ?_)
        refine lv_goto (tgt := 4) hx hb dX8_bound__31 (by decide) ?_
        exact ih_4 x1 v10005 v10006 (σ10004) _ _ _  hP hD hS (lv_sub hl [2, 3, 1, 0] rfl) hp
  refine lv_iconst (v := 0) hx hb dX8_bound__0 (by decide) ?_
  refine lv_istore_n (lv' := [(2, .int 0), (0, .ref (ad 0)), (1, .int p1)]) hx hb dX8_bound__1 rfl hl (by decide) rfl (fun ls hl => ?_)
  refine lv_iconst (v := 0) hx hb dX8_bound__2 (by decide) ?_
  refine lv_istore_n (lv' := [(3, .int 0), (2, .int 0), (0, .ref (ad 0)), (1, .int p1)]) hx hb dX8_bound__3 rfl hl (by decide) rfl (fun ls hl => ?_)
  obtain ⟨n9, hp⟩ := hp
  exact B_4 n9 p1 0 0 (σ) _ _ _  hP hD hS (lv_sub hl [2, 3, 1, 0] rfl) hp
def q_X8_choose_145 (n : Nat) (c : Nat) (rec : (Mem → Prop) → Int32 → Int32 → Mem → Prop) (post : Mem → Prop)  (σ : Mem) : Prop := post (σ)
def q_X8_choose_139 (n : Nat) (c : Nat) (rec : (Mem → Prop) → Int32 → Int32 → Mem → Prop) (post : Mem → Prop) (kE_145 : Mem → Prop) (kc_49 : Int32 → Int32 → Int32 → Int32 → Mem → Prop) (x1 : Int32) (x2 : Int32) (x3 : Int32) (x4 : Int32) (σ : Mem) : Prop := (∀ v3001 : Int32, v3001 = x4 + 1 → kc_49 x1 x2 x3 v3001 (σ))
def q_X8_choose_123 (n : Nat) (c : Nat) (rec : (Mem → Prop) → Int32 → Int32 → Mem → Prop) (post : Mem → Prop) (kE_145 : Mem → Prop) (kc_49 : Int32 → Int32 → Int32 → Int32 → Mem → Prop) (x1 : Int32) (x2 : Int32) (x3 : Int32) (x4 : Int32) (σ : Mem) : Prop := (vp_in x3 5 ∧ (∀ σ2002 : Mem, σ2002 = mst (σ) 8 x3.toNatClampNeg x4 → (rec (fun (σ2004 : Mem) => (q_X8_choose_139 n c rec post kE_145 kc_49) x1 x2 x3 x4 (σ2004)) (x1 + 1) x2 (σ2002))))
def q_X8_choose_49 (n : Nat) (c : Nat) (rec : (Mem → Prop) → Int32 → Int32 → Mem → Prop) (post : Mem → Prop) (kE_145 : Mem → Prop) (kc_49 : Int32 → Int32 → Int32 → Int32 → Mem → Prop) (x1 : Int32) (x2 : Int32) (x3 : Int32) (x4 : Int32) (σ : Mem) : Prop := ((8 ≤ x4 → kE_145 (σ)) ∧ (¬ (8 ≤ x4) → (q_X8_canBe n c (fun (r1002 : Int32) (σ1003 : Mem) => ((r1002 ≠ 0 → (q_X8_copy n c (fun (σ1006 : Mem) => (q_X8_only n c (fun (σ1008 : Mem) => (q_X8_meet n c (fun (r1009 : Int32) (σ1010 : Mem) => ((r1009 ≠ 0 → (q_X8_choose_139 n c rec post kE_145 kc_49) x1 x2 x3 x4 (σ1010)) ∧ (r1009 = 0 → ((((σ1010) 0 13) ≤ 0 → (q_X8_choose_123 n c rec post kE_145 kc_49) x1 x2 x3 x4 (σ1010)) ∧ (¬ (((σ1010) 0 13) ≤ 0) → (q_X8_bound_ n c (fun (r1013 : Int32) (σ1014 : Mem) => ((r1013 < ((σ1014) 0 12) → (q_X8_choose_123 n c rec post kE_145 kc_49) x1 x2 x3 x4 (σ1014)) ∧ (¬ (r1013 < ((σ1014) 0 12)) → (q_X8_choose_139 n c rec post kE_145 kc_49) x1 x2 x3 x4 (σ1014)))) (x1 + 1) (σ1010))))))) (x1 + 1) x2 (σ1008))) (x1 + 1) x3 x4 (σ1006))) x1 (x1 + 1) (σ1003))) ∧ (r1002 = 0 → (q_X8_choose_139 n c rec post kE_145 kc_49) x1 x2 x3 x4 (σ1003)))) x1 x3 x4 (σ))))
def q_X8_choose_b (n : Nat) (c : Nat) (rec : (Mem → Prop) → Int32 → Int32 → Mem → Prop) (post : Mem → Prop) (p1 : Int32) (p2 : Int32) (σ : Mem) : Prop := (∀ v1 : Int32, v1 = (p1 - 1) → ((v1 ≠ ((σ) 0 3) → (∃ n9 : Nat, lp_5 (q_X8_choose_49 n c rec post (q_X8_choose_145 n c rec post)) n9 p1 p2 v1 0 (σ))) ∧ (v1 = ((σ) 0 3) → (q_X8_bound_ n c (fun (r3 : Int32) (σ4 : Mem) => (∀ σ5 : Mem, σ5 = mst (σ4) 0 12 r3 → (∀ σ6 : Mem, σ6 = mst (σ5) 0 13 (((σ5) 0 13) + 1) → (∀ σ7 : Mem, σ7 = mup (σ6) 9 (va_cpy ((σ6) 8) ((σ6) 9) ((0 : Int32).toNatClampNeg) ((0 : Int32).toNatClampNeg) ((5 : Int32).toNatClampNeg)) → post (σ7))))) p1 (σ)))))
def q_X8_choose (n : Nat) (c : Nat) : Nat → (Mem → Prop) → Int32 → Int32 → Mem → Prop
  | 0, _, _, _, _ => False
  | d + 1, post, p1, p2, σ => q_X8_choose_b n c (q_X8_choose n c d) post p1 p2 σ
abbrev rm_X8_choose (d : Nat) : Room := { frames := d + 10, cells := 0, slots := 0, locals := d * 40 + 600 }
abbrev wq_X8_choose : List Cond := Cond.code yX8_choose cX8_choose 5 none :: wALL
set_option maxHeartbeats 4000000 in
set_option maxRecDepth 100000 in
theorem c_X8_choose (l : Launch) (D : va_G) (k ad g : Nat → Nat) (hg : gok g) : ∀ (d9 : Nat) {sz : Nat} {σ : Mem} {p1 : Int32} {p2 : Int32} {post : Mem → Prop} (hp : q_X8_choose (g 0) (g 2) d9 post p1 p2 σ), Met l yX8_choose wq_X8_choose (rm_X8_choose d9) (va_Pc [.ref (ad 0), .int p1, .int p2] (Pw D k (WM k ad g (σ)) sz)) (va_Qv post (fun u => Bw D (WM k ad g (σ)) sz (WM k ad g u)) (va_A (WM k ad g (σ)) sz)) 0 0 (va_A (WM k ad g (σ)) sz) := by
  intro d9
  induction d9 with
  | zero => intro _ _ _ _ _ hp; exact hp.elim
  | succ d9 ih9 =>
    intro sz σ p1 p2 post hp
    have hp : q_X8_choose_b (g 0) (g 2) (q_X8_choose (g 0) (g 2) d9) post p1 p2 σ := hp
    refine fw_v (wf := fun u : Mem => WM k ad g u) (by decide) rfl (Nat.le_of_ble_eq_true rfl) ?_
    intro p e s m args below meth c A Q ls hC hP hD hl hmn hret
    obtain ⟨⟨hx, hb, hml, hown, hts⟩, hG, hA⟩ := id hC
    have hK := hG.1
    have hS : va_S A s.heap s.heap [] := va_S.rf
    have hin_X8 : ∀ w ∈ u_ws RX8 TX8 15, w ∈ wq_X8_choose := fun w h => List.mem_cons_of_mem _ (iU_X8 w h)
    have hf_45 := hts _ (List.mem_cons_of_mem _ A_598)
    have hf_183 := hts _ (List.mem_cons_of_mem _ A_764)
    have hf_186 := hts _ (List.mem_cons_of_mem _ A_765)
    have hf_35 := hts _ (List.mem_cons_of_mem _ A_589)
    have hf_38 := hts _ (List.mem_cons_of_mem _ A_590)
    have hl : lv_has ls 5 [(0, .ref (ad 0)), (1, .int p1), (2, .int p2)] := hl
    have hown : s.vm.findClass RX8 = some m.cls := hown
    unfold q_X8_choose_b at hp
    have B_145 : ∀  (σ : Mem) (H : Heap) (locs : List Loc) (ls : Array Slot), va_P D vwCl (WM k ad g (σ)) H → va_D A (WM k ad g (σ)) → va_S A s.heap H locs → lv_has ls 5 [] → (q_X8_choose_145 (g 0) (g 2) (q_X8_choose (g 0) (g 2) d9) post)  σ → W p l e (rm_X8_choose (d9 + 1)) s m args below meth c H locs 0 0 Q (F0 m 145 ls []) := by
      intro  σ H locs ls hP hD hS hl hp
      unfold q_X8_choose_145 at hp
      exact hret (σ) _ _ _ _ _ _ dX8_choose_145 hP hD hS (Nat.le_of_ble_eq_true rfl) (Nat.le_of_ble_eq_true rfl) hp
    have B_49 : ∀ (n_49 : Nat) (x1 : Int32) (x2 : Int32) (x3 : Int32) (x4 : Int32) (σ : Mem) (H : Heap) (locs : List Loc) (ls : Array Slot), va_P D vwCl (WM k ad g (σ)) H → va_D A (WM k ad g (σ)) → va_S A s.heap H locs → lv_has ls 5 [(0, .ref (ad 0)), (1, .int x1), (2, .int x2), (3, .int x3), (4, .int x4)] → lp_5 (q_X8_choose_49 (g 0) (g 2) (q_X8_choose (g 0) (g 2) d9) post (q_X8_choose_145 (g 0) (g 2) (q_X8_choose (g 0) (g 2) d9) post)) n_49 x1 x2 x3 x4 σ → W p l e (rm_X8_choose (d9 + 1)) s m args below meth c H locs 0 0 Q (F0 m 49 ls []) := by
      intro n_49
      induction n_49 with
      | zero => intro x1 x2 x3 x4 σ H locs ls hP hD hS hl hp; exact hp.elim
      | succ n_49 ih_49 =>
        have B_139 : ∀ (x1 : Int32) (x2 : Int32) (x3 : Int32) (x4 : Int32) (σ : Mem) (H : Heap) (locs : List Loc) (ls : Array Slot), va_P D vwCl (WM k ad g (σ)) H → va_D A (WM k ad g (σ)) → va_S A s.heap H locs → lv_has ls 5 [(0, .ref (ad 0)), (1, .int x1), (2, .int x2), (3, .int x3), (4, .int x4)] → (q_X8_choose_139 (g 0) (g 2) (q_X8_choose (g 0) (g 2) d9) post (q_X8_choose_145 (g 0) (g 2) (q_X8_choose (g 0) (g 2) d9) post) (lp_5 (q_X8_choose_49 (g 0) (g 2) (q_X8_choose (g 0) (g 2) d9) post (q_X8_choose_145 (g 0) (g 2) (q_X8_choose (g 0) (g 2) d9) post)) n_49)) x1 x2 x3 x4 σ → W p l e (rm_X8_choose (d9 + 1)) s m args below meth c H locs 0 0 Q (F0 m 139 ls []) := by
          intro x1 x2 x3 x4 σ H locs ls hP hD hS hl hp
          unfold q_X8_choose_139 at hp
          obtain ⟨v30001, ev30001⟩ : ∃ z : Int32, z = x4 + 1 := ⟨_, rfl⟩
          have hp := hp v30001 ev30001
          refine lv_iinc (v := v30001) (lv' := [(4, .int v30001), (0, .ref (ad 0)), (1, .int x1), (2, .int x2), (3, .int x3)]) hx hb dX8_choose_139 hl (k := 4) rfl (by rw [ev30001]; rfl) (by decide) rfl (fun ls hl => ?_)
          refine lv_goto (tgt := 49) hx hb dX8_choose_142 (by decide) ?_
          exact ih_49 x1 x2 x3 v30001 (σ) _ _ _  hP hD hS (lv_sub hl [1, 2, 3, 4, 0] rfl) hp
        have B_123 : ∀ (x1 : Int32) (x2 : Int32) (x3 : Int32) (x4 : Int32) (σ : Mem) (H : Heap) (locs : List Loc) (ls : Array Slot), va_P D vwCl (WM k ad g (σ)) H → va_D A (WM k ad g (σ)) → va_S A s.heap H locs → lv_has ls 5 [(0, .ref (ad 0)), (1, .int x1), (2, .int x2), (3, .int x3), (4, .int x4)] → (q_X8_choose_123 (g 0) (g 2) (q_X8_choose (g 0) (g 2) d9) post (q_X8_choose_145 (g 0) (g 2) (q_X8_choose (g 0) (g 2) d9) post) (lp_5 (q_X8_choose_49 (g 0) (g 2) (q_X8_choose (g 0) (g 2) d9) post (q_X8_choose_145 (g 0) (g 2) (q_X8_choose (g 0) (g 2) d9) post)) n_49)) x1 x2 x3 x4 σ → W p l e (rm_X8_choose (d9 + 1)) s m args below meth c H locs 0 0 Q (F0 m 123 ls []) := by
          intro x1 x2 x3 x4 σ H locs ls hP hD hS hl hp
          unfold q_X8_choose_123 at hp
          refine lv_aload_n hx hb dX8_choose_123 rfl (lv_at hl 0 rfl) ?_
          refine va_get (D := D) (ci := 12) (C := RX8) (T := TX8) (N := 15) hx hb hts hin_X8 hown hK hP 0 rfl rfl 10 (by decide) hf_35 (fun _ h9 => h9) rfl dX8_choose_124 ?_
          refine lv_iload_n hx hb dX8_choose_127 rfl (lv_at hl 3 rfl) ?_
          refine lv_iload hx hb dX8_choose_128 (lv_at hl 4 rfl) ?_
          obtain ⟨h20001, hp⟩ := hp
          refine va_iast hx hb hK hP hD hS 8 0 rfl rfl h20001 dX8_choose_130 (fun H locs hP hD hS => ?_)
          obtain ⟨σ20002, eσ20002⟩ : ∃ z : Mem, z = mst (σ) 8 x3.toNatClampNeg x4 := ⟨_, rfl⟩
          have hp := hp σ20002 eσ20002
          have hP : va_P D vwCl (WM k ad g (σ20002)) H := by rw [eσ20002, WM_s (by decide)]; exact hP
          have hD : va_D A (WM k ad g (σ20002)) := by rw [eσ20002, WM_s (by decide)]; exact hD
          refine lv_aload_n hx hb dX8_choose_131 rfl (lv_at hl 0 rfl) ?_
          refine lv_iload_n hx hb dX8_choose_132 rfl (lv_at hl 1 rfl) ?_
          refine lv_iconst (v := 1) hx hb dX8_choose_133 (by decide) ?_
          refine lv_iadd hx hb dX8_choose_134 ?_
          refine lv_iload_n hx hb dX8_choose_135 rfl (lv_at hl 2 rfl) ?_
          refine fw_cvV (As := [.int (x1 + 1), .int x2]) (rest := []) hC (ih9 hp) (cwV 2 hts (gA_V A_769 A_770 A_771 A_601 A_772) rfl rfl rfl (by decide +kernel) ⟨by show d9 + 10 + 1 ≤ d9 + 1 + 10; omega, by show 8 + (5 + 11) + (d9 * 40 + 600) ≤ (d9 + 1) * 40 + 600; omega⟩) (va_recv hK hP (ci := 12) (q0 := 0) rfl rfl) rfl hl.1 rfl (Nat.le_of_ble_eq_true rfl) dX8_choose_136 ⟨Nat.le_of_ble_eq_true rfl, Nat.le_of_ble_eq_true rfl⟩ hP hD hS Jn.same (fun σ20004 H locs hP hD hS hp => ?_)
          have hP : va_P D vwCl (WM k ad g (σ20004)) H := hP
          have hD : va_D A (WM k ad g (σ20004)) := hD
          exact B_139 x1 x2 x3 x4 (σ20004) _ _ _  hP hD hS (lv_sub hl [0, 1, 2, 3, 4] rfl) hp
        intro x1 x2 x3 x4 σ H locs ls hP hD hS hl hp
        have hp : q_X8_choose_49 (g 0) (g 2) (q_X8_choose (g 0) (g 2) d9) post (q_X8_choose_145 (g 0) (g 2) (q_X8_choose (g 0) (g 2) d9) post) (lp_5 (q_X8_choose_49 (g 0) (g 2) (q_X8_choose (g 0) (g 2) d9) post (q_X8_choose_145 (g 0) (g 2) (q_X8_choose (g 0) (g 2) d9) post)) n_49) x1 x2 x3 x4 σ := hp
        unfold q_X8_choose_49 at hp
        refine lv_iload hx hb dX8_choose_49 (lv_at hl 4 rfl) ?_
        refine lv_bipush (v := 8) hx hb dX8_choose_51 (by decide) ?_
        refine lv_icmp_ge (tgt := 145) hx hb dX8_choose_53 (by decide) (fun c10001 => ?_) (fun c10001 => ?_)
        · have hp := hp.1 c10001
          exact B_145  (σ) _ _ _  hP hD hS (lv_sub hl [] rfl) hp
        · have hp := hp.2 c10001
          refine lv_aload_n hx hb dX8_choose_56 rfl (lv_at hl 0 rfl) ?_
          refine lv_iload_n hx hb dX8_choose_57 rfl (lv_at hl 1 rfl) ?_
          refine lv_iload_n hx hb dX8_choose_58 rfl (lv_at hl 3 rfl) ?_
          refine lv_iload hx hb dX8_choose_59 (lv_at hl 4 rfl) ?_
          refine fw_ciV (As := [.int x1, .int x3, .int x4]) (rest := []) hC (c_X8_canBe l D k ad g hg hp) (cwV 3 hts (gA_V A_743 A_744 A_745 A_601 A_701) rfl rfl rfl (by decide +kernel) ⟨by show 1 + 1 ≤ d9 + 1 + 10; omega, by show 8 + (4 + 11) + 22 ≤ (d9 + 1) * 40 + 600; omega⟩) (va_recv hK hP (ci := 12) (q0 := 0) rfl rfl) rfl hl.1 rfl (Nat.le_of_ble_eq_true rfl) dX8_choose_61 ⟨Nat.le_of_ble_eq_true rfl, Nat.le_of_ble_eq_true rfl⟩ hP hD hS Jn.same (fun r10002 σ10003 H locs hP hD hS hp => ?_)
          have hP : va_P D vwCl (WM k ad g (σ10003)) H := hP
          have hD : va_D A (WM k ad g (σ10003)) := hD
          refine lv_if_ne (tgt := 70) hx hb dX8_choose_64 (by decide) (fun c10004 => ?_) (fun c10004 => ?_)
          · have hp := hp.1 c10004
            refine lv_aload_n hx hb dX8_choose_70 rfl (lv_at hl 0 rfl) ?_
            refine lv_iload_n hx hb dX8_choose_71 rfl (lv_at hl 1 rfl) ?_
            refine lv_iload_n hx hb dX8_choose_72 rfl (lv_at hl 1 rfl) ?_
            refine lv_iconst (v := 1) hx hb dX8_choose_73 (by decide) ?_
            refine lv_iadd hx hb dX8_choose_74 ?_
            refine fw_cvV (As := [.int x1, .int (x1 + 1)]) (rest := []) hC (c_X8_copy l D k ad g hg hp) (cwV 2 hts (gA_V A_746 A_747 A_748 A_601 A_688) rfl rfl rfl (by decide +kernel) ⟨by show 1 + 1 ≤ d9 + 1 + 10; omega, by show 8 + (3 + 11) + 80 ≤ (d9 + 1) * 40 + 600; omega⟩) (va_recv hK hP (ci := 12) (q0 := 0) rfl rfl) rfl hl.1 rfl (Nat.le_of_ble_eq_true rfl) dX8_choose_75 ⟨Nat.le_of_ble_eq_true rfl, Nat.le_of_ble_eq_true rfl⟩ hP hD hS Jn.same (fun σ10006 H locs hP hD hS hp => ?_)
            have hP : va_P D vwCl (WM k ad g (σ10006)) H := hP
            have hD : va_D A (WM k ad g (σ10006)) := hD
            refine lv_aload_n hx hb dX8_choose_78 rfl (lv_at hl 0 rfl) ?_
            refine lv_iload_n hx hb dX8_choose_79 rfl (lv_at hl 1 rfl) ?_
            refine lv_iconst (v := 1) hx hb dX8_choose_80 (by decide) ?_
            refine lv_iadd hx hb dX8_choose_81 ?_
            refine lv_iload_n hx hb dX8_choose_82 rfl (lv_at hl 3 rfl) ?_
            refine lv_iload hx hb dX8_choose_83 (lv_at hl 4 rfl) ?_
            refine fw_cvV (As := [.int (x1 + 1), .int x3, .int x4]) (rest := []) hC (c_X8_only l D k ad g hg hp) (cwV 3 hts (gA_V A_749 A_750 A_751 A_601 A_725) rfl rfl rfl (by decide +kernel) ⟨by show 0 + 1 ≤ d9 + 1 + 10; omega, by show 8 + (4 + 11) + 0 ≤ (d9 + 1) * 40 + 600; omega⟩) (va_recv hK hP (ci := 12) (q0 := 0) rfl rfl) rfl hl.1 rfl (Nat.le_of_ble_eq_true rfl) dX8_choose_85 ⟨Nat.le_of_ble_eq_true rfl, Nat.le_of_ble_eq_true rfl⟩ hP hD hS Jn.same (fun σ10008 H locs hP hD hS hp => ?_)
            have hP : va_P D vwCl (WM k ad g (σ10008)) H := hP
            have hD : va_D A (WM k ad g (σ10008)) := hD
            refine lv_aload_n hx hb dX8_choose_88 rfl (lv_at hl 0 rfl) ?_
            refine lv_iload_n hx hb dX8_choose_89 rfl (lv_at hl 1 rfl) ?_
            refine lv_iconst (v := 1) hx hb dX8_choose_90 (by decide) ?_
            refine lv_iadd hx hb dX8_choose_91 ?_
            refine lv_iload_n hx hb dX8_choose_92 rfl (lv_at hl 2 rfl) ?_
            refine fw_ciV (As := [.int (x1 + 1), .int x2]) (rest := []) hC (c_X8_meet l D k ad g hg hp) (cwV 2 hts (gA_V A_721 A_722 A_723 A_601 A_717) rfl rfl rfl (by decide +kernel) ⟨by show 4 + 1 ≤ d9 + 1 + 10; omega, by show 8 + (6 + 11) + 260 ≤ (d9 + 1) * 40 + 600; omega⟩) (va_recv hK hP (ci := 12) (q0 := 0) rfl rfl) rfl hl.1 rfl (Nat.le_of_ble_eq_true rfl) dX8_choose_93 ⟨Nat.le_of_ble_eq_true rfl, Nat.le_of_ble_eq_true rfl⟩ hP hD hS Jn.same (fun r10009 σ10010 H locs hP hD hS hp => ?_)
            have hP : va_P D vwCl (WM k ad g (σ10010)) H := hP
            have hD : va_D A (WM k ad g (σ10010)) := hD
            refine lv_if_ne (tgt := 139) hx hb dX8_choose_96 (by decide) (fun c10011 => ?_) (fun c10011 => ?_)
            · have hp := hp.1 c10011
              exact B_139 x1 x2 x3 x4 (σ10010) _ _ _  hP hD hS (lv_sub hl [0, 1, 2, 3, 4] rfl) hp
            · have hp := hp.2 c10011
              refine lv_aload_n hx hb dX8_choose_99 rfl (lv_at hl 0 rfl) ?_
              refine va_get (D := D) (ci := 12) (C := RX8) (T := TX8) (N := 15) hx hb hts hin_X8 hown hK hP 0 rfl rfl 13 (by decide) hf_186 (fun _ h9 => h9) rfl dX8_choose_100 ?_
              refine lv_if_le (tgt := 123) hx hb dX8_choose_103 (by decide) (fun c10012 => ?_) (fun c10012 => ?_)
              · have hp := hp.1 c10012
                exact B_123 x1 x2 x3 x4 (σ10010) _ _ _  hP hD hS (lv_sub hl [0, 1, 2, 3, 4] rfl) hp
              · have hp := hp.2 c10012
                refine lv_aload_n hx hb dX8_choose_106 rfl (lv_at hl 0 rfl) ?_
                refine lv_iload_n hx hb dX8_choose_107 rfl (lv_at hl 1 rfl) ?_
                refine lv_iconst (v := 1) hx hb dX8_choose_108 (by decide) ?_
                refine lv_iadd hx hb dX8_choose_109 ?_
                refine fw_ciV (As := [.int (x1 + 1)]) (rest := []) hC (c_X8_bound_ l D k ad g hg hp) (cwV 1 hts (gA_V A_766 A_767 A_768 A_601 A_763) rfl rfl rfl (by decide +kernel) ⟨by show 2 + 1 ≤ d9 + 1 + 10; omega, by show 8 + (4 + 11) + 44 ≤ (d9 + 1) * 40 + 600; omega⟩) (va_recv hK hP (ci := 12) (q0 := 0) rfl rfl) rfl hl.1 rfl (Nat.le_of_ble_eq_true rfl) dX8_choose_110 ⟨Nat.le_of_ble_eq_true rfl, Nat.le_of_ble_eq_true rfl⟩ hP hD hS Jn.same (fun r10013 σ10014 H locs hP hD hS hp => ?_)
                have hP : va_P D vwCl (WM k ad g (σ10014)) H := hP
                have hD : va_D A (WM k ad g (σ10014)) := hD
                refine lv_aload_n hx hb dX8_choose_113 rfl (lv_at hl 0 rfl) ?_
                refine va_get (D := D) (ci := 12) (C := RX8) (T := TX8) (N := 15) hx hb hts hin_X8 hown hK hP 0 rfl rfl 12 (by decide) hf_183 (fun _ h9 => h9) rfl dX8_choose_114 ?_
                refine lv_icmp_lt (tgt := 123) hx hb dX8_choose_117 (by decide) (fun c10015 => ?_) (fun c10015 => ?_)
                · have hp := hp.1 c10015
                  exact B_123 x1 x2 x3 x4 (σ10014) _ _ _  hP hD hS (lv_sub hl [0, 1, 2, 3, 4] rfl) hp
                · have hp := hp.2 c10015
                  refine lv_goto (tgt := 139) hx hb dX8_choose_120 (by decide) ?_
                  exact B_139 x1 x2 x3 x4 (σ10014) _ _ _  hP hD hS (lv_sub hl [0, 1, 2, 3, 4] rfl) hp
          · have hp := hp.2 c10004
            refine lv_goto (tgt := 139) hx hb dX8_choose_67 (by decide) ?_
            exact B_139 x1 x2 x3 x4 (σ10003) _ _ _  hP hD hS (lv_sub hl [0, 1, 2, 3, 4] rfl) hp
    refine lv_iload_n hx hb dX8_choose_0 rfl (lv_at hl 1 rfl) ?_
    refine lv_iconst (v := 1) hx hb dX8_choose_1 (by decide) ?_
    refine lv_isub hx hb dX8_choose_2 ?_
    refine lv_topi (fun v1 ev1 => ?_)
    have hp := hp v1 ev1
    refine lv_istore_n (lv' := [(3, .int v1), (0, .ref (ad 0)), (1, .int p1), (2, .int p2)]) hx hb dX8_choose_3 rfl hl (by decide) rfl (fun ls hl => ?_)
    refine lv_iload_n hx hb dX8_choose_4 rfl (lv_at hl 0 rfl) ?_
    refine lv_aload_n hx hb dX8_choose_5 rfl (lv_at hl 1 rfl) ?_
    refine va_get (D := D) (ci := 12) (C := RX8) (T := TX8) (N := 15) hx hb hts hin_X8 hown hK hP 0 rfl rfl 3 (by decide) hf_45 (fun _ h9 => h9) rfl dX8_choose_6 ?_
    refine lv_icmp_ne (tgt := 46) hx hb dX8_choose_9 (by decide) (fun c2 => ?_) (fun c2 => ?_)
    · have hp := hp.1 c2
      refine lv_iconst (v := 0) hx hb dX8_choose_46 (by decide) ?_
      refine lv_istore (lv' := [(4, .int 0), (3, .int v1), (0, .ref (ad 0)), (1, .int p1), (2, .int p2)]) hx hb dX8_choose_47 hl (by decide) rfl (fun ls hl => ?_)
      obtain ⟨n9, hp⟩ := hp
      exact B_49 n9 p1 p2 v1 0 (σ) _ _ _  hP hD hS (lv_sub hl [2, 3, 4, 1, 0] rfl) hp
    · have hp := hp.2 c2
      refine lv_aload_n hx hb dX8_choose_12 rfl (lv_at hl 1 rfl) ?_
      refine lv_aload_n hx hb dX8_choose_13 rfl (lv_at hl 1 rfl) ?_
      refine lv_iload_n hx hb dX8_choose_14 rfl (lv_at hl 2 rfl) ?_
      refine fw_ciV (As := [.int p1]) (rest := [.ref (ad 0)]) hC (c_X8_bound_ l D k ad g hg hp) (cwV 1 hts (gA_V A_766 A_767 A_768 A_601 A_763) rfl rfl rfl (by decide +kernel) ⟨by show 2 + 1 ≤ d9 + 1 + 10; omega, by show 8 + (4 + 11) + 44 ≤ (d9 + 1) * 40 + 600; omega⟩) (va_recv hK hP (ci := 12) (q0 := 0) rfl rfl) rfl hl.1 rfl (Nat.le_of_ble_eq_true rfl) dX8_choose_15 ⟨Nat.le_of_ble_eq_true rfl, Nat.le_of_ble_eq_true rfl⟩ hP hD hS Jn.same (fun r3 σ4 H locs hP hD hS hp => ?_)
      have hP : va_P D vwCl (WM k ad g (σ4)) H := hP
      have hD : va_D A (WM k ad g (σ4)) := hD
      refine va_put (D := D) (ci := 12) (v := .int r3) (ty := .int) (C := RX8) (T := TX8) (N := 15) hx hb hts hin_X8 tyX8 tyX8_ok nmX8 hown hK hP hD hS 0 rfl rfl 12 (by decide) hf_183 (fun _ h9 => h9) rfl (by decide +kernel) rfl rfl (Nat.le_of_ble_eq_true rfl) dX8_choose_18 (fun H locs hP hD hS => ?_)
      obtain ⟨σ5, eσ5⟩ : ∃ z : Mem, z = mst (σ4) 0 12 r3 := ⟨_, rfl⟩
      have hp := hp σ5 eσ5
      have hP : va_P D vwCl (WM k ad g (σ5)) H := by rw [eσ5, WM_s (by decide)]; exact hP
      have hD : va_D A (WM k ad g (σ5)) := by rw [eσ5, WM_s (by decide)]; exact hD
      refine lv_aload_n hx hb dX8_choose_21 rfl (lv_at hl 1 rfl) ?_
      refine lv_dup hx hb dX8_choose_22 rfl ?_
      refine va_get (D := D) (ci := 12) (C := RX8) (T := TX8) (N := 15) hx hb hts hin_X8 hown hK hP 0 rfl rfl 13 (by decide) hf_186 (fun _ h9 => h9) rfl dX8_choose_23 ?_
      refine lv_iconst (v := 1) hx hb dX8_choose_26 (by decide) ?_
      refine lv_iadd hx hb dX8_choose_27 ?_
      refine va_put (D := D) (ci := 12) (v := .int (((σ5) 0 13) + 1)) (ty := .int) (C := RX8) (T := TX8) (N := 15) hx hb hts hin_X8 tyX8 tyX8_ok nmX8 hown hK hP hD hS 0 rfl rfl 13 (by decide) hf_186 (fun _ h9 => h9) rfl (by decide +kernel) rfl rfl (Nat.le_of_ble_eq_true rfl) dX8_choose_28 (fun H locs hP hD hS => ?_)
      obtain ⟨σ6, eσ6⟩ : ∃ z : Mem, z = mst (σ5) 0 13 (((σ5) 0 13) + 1) := ⟨_, rfl⟩
      have hp := hp σ6 eσ6
      have hP : va_P D vwCl (WM k ad g (σ6)) H := by rw [eσ6, WM_s (by decide)]; exact hP
      have hD : va_D A (WM k ad g (σ6)) := by rw [eσ6, WM_s (by decide)]; exact hD
      refine lv_aload_n hx hb dX8_choose_31 rfl (lv_at hl 1 rfl) ?_
      refine va_get (D := D) (ci := 12) (C := RX8) (T := TX8) (N := 15) hx hb hts hin_X8 hown hK hP 0 rfl rfl 10 (by decide) hf_35 (fun _ h9 => h9) rfl dX8_choose_32 ?_
      refine lv_iconst (v := 0) hx hb dX8_choose_35 (by decide) ?_
      refine lv_aload_n hx hb dX8_choose_36 rfl (lv_at hl 1 rfl) ?_
      refine va_get (D := D) (ci := 12) (C := RX8) (T := TX8) (N := 15) hx hb hts hin_X8 hown hK hP 0 rfl rfl 11 (by decide) hf_38 (fun _ h9 => h9) rfl dX8_choose_37 ?_
      refine lv_iconst (v := 0) hx hb dX8_choose_40 (by decide) ?_
      refine lv_iconst (v := 5) hx hb dX8_choose_41 (by decide) ?_
      refine va_copyi hx hb (by rw [hml]; exact hl.1.symm) hown (hts _ (List.mem_cons_of_mem _ A_689)) (hts _ (List.mem_cons_of_mem _ A_35)) (hts _ (List.mem_cons_of_mem _ A_36)) (hts _ (List.mem_cons_of_mem _ A_37)) hK hP hD hS 8 9 0 0 rfl rfl rfl rfl rfl (by decide) (by decide) (by decide) (by decide) (by decide) (fun _ _ => rfl) (Nat.le_of_ble_eq_true rfl) (Nat.le_trans (m := 200) (by decide +kernel) (by show 200 ≤ (d9 + 1) * 40 + 600; omega)) dX8_choose_42 (fun H locs hP hD hS => ?_)
      obtain ⟨σ7, eσ7⟩ : ∃ z : Mem, z = mup (σ6) 9 (va_cpy ((σ6) 8) ((σ6) 9) ((0 : Int32).toNatClampNeg) ((0 : Int32).toNatClampNeg) ((5 : Int32).toNatClampNeg)) := ⟨_, rfl⟩
      have hp := hp σ7 eσ7
      have hP : va_P D vwCl (WM k ad g (σ7)) H := by rw [eσ7, WM_u (by decide)]; exact hP
      have hD : va_D A (WM k ad g (σ7)) := by rw [eσ7, WM_u (by decide)]; exact hD
      exact hret (σ7) _ _ _ _ _ _ dX8_choose_45 hP hD hS (Nat.le_of_ble_eq_true rfl) (Nat.le_of_ble_eq_true rfl) hp
def q_X8_isChosen_46 (n : Nat) (c : Nat) (post : Int32 → Mem → Prop)  (s0 : Int32) (σ : Mem) : Prop := (bz s0 ∧ post s0 (σ))
def q_X8_isChosen_26 (n : Nat) (c : Nat) (post : Int32 → Mem → Prop)  (σ : Mem) : Prop := post 0 (σ)
def q_X8_isChosen (n : Nat) (c : Nat) (post : Int32 → Mem → Prop) (σ : Mem) : Prop := (∀ σ1 : Mem, σ1 = mst (σ) 0 13 0 → (q_X8_counting n c (fun (r2 : Int32) (σ3 : Mem) => ((((σ3) 0 3) = 0 → (q_X8_isChosen_26 n c post) (σ3)) ∧ (¬ (((σ3) 0 3) = 0) → (q_X8_meetAnew n c (fun (r5 : Int32) (σ6 : Mem) => ((r5 = 0 → (q_X8_choose n c 6 (fun (σ9 : Mem) => ((((σ9) 0 13) ≤ 0 → (q_X8_isChosen_46 n c post) 0 (σ9)) ∧ (¬ (((σ9) 0 13) ≤ 0) → (q_X8_isChosen_46 n c post) 1 (σ9)))) 1 r2 (σ6))) ∧ (¬ (r5 = 0) → (q_X8_isChosen_26 n c post) (σ6)))) 1 r2 (σ3))))) (σ1)))
abbrev rm_X8_isChosen : Room := { frames := 17, cells := 0, slots := 0, locals := 864 }
abbrev wq_X8_isChosen : List Cond := Cond.code yX8_isChosen cX8_isChosen 2 (some .boolean) :: wALL
set_option maxHeartbeats 4000000 in
set_option maxRecDepth 100000 in
theorem c_X8_isChosen (l : Launch) (D : va_G) (k ad g : Nat → Nat) (hg : gok g) {sz : Nat} {σ : Mem} {post : Int32 → Mem → Prop} (hp : q_X8_isChosen (g 0) (g 2) post σ) : Met l yX8_isChosen wq_X8_isChosen rm_X8_isChosen (va_Pc [.ref (ad 0)] (Pw D k (WM k ad g (σ)) sz)) (va_Qi post (fun u => Bw D (WM k ad g (σ)) sz (WM k ad g u)) (va_A (WM k ad g (σ)) sz)) 0 0 (va_A (WM k ad g (σ)) sz) := by
  refine fw_i (wf := fun u : Mem => WM k ad g u) (by decide) rfl (Nat.le_of_ble_eq_true rfl) ?_
  intro p e s m args below meth c A Q ls hC hP hD hl hret
  obtain ⟨⟨hx, hb, hml, hown, hts⟩, hG, hA⟩ := id hC
  have hK := hG.1
  have hS : va_S A s.heap s.heap [] := va_S.rf
  have hin_X8 : ∀ w ∈ u_ws RX8 TX8 15, w ∈ wq_X8_isChosen := fun w h => List.mem_cons_of_mem _ (iU_X8 w h)
  have hf_186 := hts _ (List.mem_cons_of_mem _ A_765)
  have hf_45 := hts _ (List.mem_cons_of_mem _ A_598)
  have hl : lv_has ls 2 [(0, .ref (ad 0))] := hl
  have hown : s.vm.findClass RX8 = some m.cls := hown
  unfold q_X8_isChosen at hp
  have B_46 : ∀ (s0 : Int32) (σ : Mem) (H : Heap) (locs : List Loc) (ls : Array Slot), va_P D vwCl (WM k ad g (σ)) H → va_D A (WM k ad g (σ)) → va_S A s.heap H locs → lv_has ls 2 [] → (q_X8_isChosen_46 (g 0) (g 2) post) s0 σ → W p l e rm_X8_isChosen s m args below meth c H locs 0 0 Q (F0 m 46 ls [.int s0]) := by
    intro s0 σ H locs ls hP hD hS hl hp
    unfold q_X8_isChosen_46 at hp
    exact hret s0 (σ) _ _ _ _ _ _ dX8_isChosen_46 hp.1.1 hP hD hS (Nat.le_of_ble_eq_true rfl) (Nat.le_of_ble_eq_true rfl) hp.2
  have B_26 : ∀  (σ : Mem) (H : Heap) (locs : List Loc) (ls : Array Slot), va_P D vwCl (WM k ad g (σ)) H → va_D A (WM k ad g (σ)) → va_S A s.heap H locs → lv_has ls 2 [] → (q_X8_isChosen_26 (g 0) (g 2) post)  σ → W p l e rm_X8_isChosen s m args below meth c H locs 0 0 Q (F0 m 26 ls []) := by
    intro  σ H locs ls hP hD hS hl hp
    unfold q_X8_isChosen_26 at hp
    refine lv_iconst (v := 0) hx hb dX8_isChosen_26 (by decide) ?_
    exact hret 0 (σ) _ _ _ _ _ _ dX8_isChosen_27 (by decide) hP hD hS (Nat.le_of_ble_eq_true rfl) (Nat.le_of_ble_eq_true rfl) hp
  refine lv_aload_n hx hb dX8_isChosen_0 rfl (lv_at hl 0 rfl) ?_
  refine lv_iconst (v := 0) hx hb dX8_isChosen_1 (by decide) ?_
  refine va_put (D := D) (ci := 12) (v := .int 0) (ty := .int) (C := RX8) (T := TX8) (N := 15) hx hb hts hin_X8 tyX8 tyX8_ok nmX8 hown hK hP hD hS 0 rfl rfl 13 (by decide) hf_186 (fun _ h9 => h9) rfl (by decide +kernel) rfl rfl (Nat.le_of_ble_eq_true rfl) dX8_isChosen_2 (fun H locs hP hD hS => ?_)
  obtain ⟨σ1, eσ1⟩ : ∃ z : Mem, z = mst (σ) 0 13 0 := ⟨_, rfl⟩
  have hp := hp σ1 eσ1
  have hP : va_P D vwCl (WM k ad g (σ1)) H := by rw [eσ1, WM_s (by decide)]; exact hP
  have hD : va_D A (WM k ad g (σ1)) := by rw [eσ1, WM_s (by decide)]; exact hD
  refine lv_aload_n hx hb dX8_isChosen_5 rfl (lv_at hl 0 rfl) ?_
  refine fw_ciV (As := []) (rest := []) hC (c_X8_counting l D k ad g hg hp) (cwV 0 hts (gA_V A_731 A_732 A_733 A_601 A_627) rfl rfl rfl (by decide +kernel) ⟨Nat.le_of_ble_eq_true rfl, Nat.le_of_ble_eq_true rfl⟩) (va_recv hK hP (ci := 12) (q0 := 0) rfl rfl) rfl hl.1 rfl (Nat.le_of_ble_eq_true rfl) dX8_isChosen_6 ⟨Nat.le_of_ble_eq_true rfl, Nat.le_of_ble_eq_true rfl⟩ hP hD hS Jn.same (fun r2 σ3 H locs hP hD hS hp => ?_)
  have hP : va_P D vwCl (WM k ad g (σ3)) H := hP
  have hD : va_D A (WM k ad g (σ3)) := hD
  refine lv_istore_n (lv' := [(1, .int r2), (0, .ref (ad 0))]) hx hb dX8_isChosen_9 rfl hl (by decide) rfl (fun ls hl => ?_)
  refine lv_aload_n hx hb dX8_isChosen_10 rfl (lv_at hl 1 rfl) ?_
  refine va_get (D := D) (ci := 12) (C := RX8) (T := TX8) (N := 15) hx hb hts hin_X8 hown hK hP 0 rfl rfl 3 (by decide) hf_45 (fun _ h9 => h9) rfl dX8_isChosen_11 ?_
  refine lv_if_eq (tgt := 26) hx hb dX8_isChosen_14 (by decide) (fun c4 => ?_) (fun c4 => ?_)
  · have hp := hp.1 c4
    exact B_26  (σ3) _ _ _  hP hD hS (lv_sub hl [] rfl) hp
  · have hp := hp.2 c4
    refine lv_aload_n hx hb dX8_isChosen_17 rfl (lv_at hl 1 rfl) ?_
    refine lv_iconst (v := 1) hx hb dX8_isChosen_18 (by decide) ?_
    refine lv_iload_n hx hb dX8_isChosen_19 rfl (lv_at hl 0 rfl) ?_
    refine fw_ciV (As := [.int 1, .int r2]) (rest := []) hC (c_X8_meetAnew l D k ad g hg hp) (cwV 2 hts (gA_V A_734 A_735 A_736 A_601 A_724) rfl rfl rfl (by decide +kernel) ⟨Nat.le_of_ble_eq_true rfl, Nat.le_of_ble_eq_true rfl⟩) (va_recv hK hP (ci := 12) (q0 := 0) rfl rfl) rfl hl.1 rfl (Nat.le_of_ble_eq_true rfl) dX8_isChosen_20 ⟨Nat.le_of_ble_eq_true rfl, Nat.le_of_ble_eq_true rfl⟩ hP hD hS Jn.same (fun r5 σ6 H locs hP hD hS hp => ?_)
    have hP : va_P D vwCl (WM k ad g (σ6)) H := hP
    have hD : va_D A (WM k ad g (σ6)) := hD
    refine lv_if_eq (tgt := 28) hx hb dX8_isChosen_23 (by decide) (fun c7 => ?_) (fun c7 => ?_)
    · have hp := hp.1 c7
      refine lv_aload_n hx hb dX8_isChosen_28 rfl (lv_at hl 1 rfl) ?_
      refine lv_iconst (v := 1) hx hb dX8_isChosen_29 (by decide) ?_
      refine lv_iload_n hx hb dX8_isChosen_30 rfl (lv_at hl 0 rfl) ?_
      refine fw_cvV (As := [.int 1, .int r2]) (rest := []) hC (c_X8_choose l D k ad g hg 6 hp) (cwV 2 hts (gA_V A_769 A_770 A_771 A_601 A_772) rfl rfl rfl (by decide +kernel) ⟨Nat.le_of_ble_eq_true rfl, Nat.le_of_ble_eq_true rfl⟩) (va_recv hK hP (ci := 12) (q0 := 0) rfl rfl) rfl hl.1 rfl (Nat.le_of_ble_eq_true rfl) dX8_isChosen_31 ⟨Nat.le_of_ble_eq_true rfl, Nat.le_of_ble_eq_true rfl⟩ hP hD hS Jn.same (fun σ9 H locs hP hD hS hp => ?_)
      have hP : va_P D vwCl (WM k ad g (σ9)) H := hP
      have hD : va_D A (WM k ad g (σ9)) := hD
      refine lv_aload_n hx hb dX8_isChosen_34 rfl (lv_at hl 1 rfl) ?_
      refine va_get (D := D) (ci := 12) (C := RX8) (T := TX8) (N := 15) hx hb hts hin_X8 hown hK hP 0 rfl rfl 13 (by decide) hf_186 (fun _ h9 => h9) rfl dX8_isChosen_35 ?_
      refine lv_if_le (tgt := 45) hx hb dX8_isChosen_38 (by decide) (fun c10 => ?_) (fun c10 => ?_)
      · have hp := hp.1 c10
        refine lv_iconst (v := 0) hx hb dX8_isChosen_45 (by decide) ?_
        exact B_46 0 (σ9) _ _ _  hP hD hS (lv_sub hl [] rfl) hp
      · have hp := hp.2 c10
        refine lv_iconst (v := 1) hx hb dX8_isChosen_41 (by decide) ?_
        refine lv_goto (tgt := 46) hx hb dX8_isChosen_42 (by decide) ?_
        exact B_46 1 (σ9) _ _ _  hP hD hS (lv_sub hl [] rfl) hp
    · have hp := hp.2 c7
      exact B_26  (σ6) _ _ _  hP hD hS (lv_sub hl [] rfl) hp
def q_X8_countFrom_102 (n : Nat) (c : Nat) (rec : (Int32 → Mem → Prop) → Int32 → Int32 → Int32 → Mem → Prop) (post : Int32 → Mem → Prop)  (x5 : Int32) (σ : Mem) : Prop := post x5 (σ)
def q_X8_countFrom_96 (n : Nat) (c : Nat) (rec : (Int32 → Mem → Prop) → Int32 → Int32 → Int32 → Mem → Prop) (post : Int32 → Mem → Prop) (kE_102 : Int32 → Mem → Prop) (kc_24 : Int32 → Int32 → Int32 → Int32 → Int32 → Mem → Prop) (x1 : Int32) (x2 : Int32) (x4 : Int32) (x5 : Int32) (x6 : Int32) (σ : Mem) : Prop := (∀ v2001 : Int32, v2001 = x6 + 1 → kc_24 x1 x2 x4 x5 v2001 (σ))
def q_X8_countFrom_24 (n : Nat) (c : Nat) (rec : (Int32 → Mem → Prop) → Int32 → Int32 → Int32 → Mem → Prop) (post : Int32 → Mem → Prop) (kE_102 : Int32 → Mem → Prop) (kc_24 : Int32 → Int32 → Int32 → Int32 → Int32 → Mem → Prop) (x1 : Int32) (x2 : Int32) (x4 : Int32) (x5 : Int32) (x6 : Int32) (σ : Mem) : Prop := ((8 ≤ x6 → kE_102 x5 (σ)) ∧ (¬ (8 ≤ x6) → ((500 ≤ x5 → kE_102 x5 (σ)) ∧ (¬ (500 ≤ x5) → (q_X8_canBe n c (fun (r1003 : Int32) (σ1004 : Mem) => ((r1003 ≠ 0 → (q_X8_copy n c (fun (σ1007 : Mem) => (q_X8_only n c (fun (σ1009 : Mem) => (q_X8_meet n c (fun (r1010 : Int32) (σ1011 : Mem) => ((r1010 ≠ 0 → (q_X8_countFrom_96 n c rec post kE_102 kc_24) x1 x2 x4 x5 x6 (σ1011)) ∧ (r1010 = 0 → (rec (fun (r1013 : Int32) (σ1014 : Mem) => (q_X8_countFrom_96 n c rec post kE_102 kc_24) x1 x2 x4 r1013 x6 (σ1014)) (x1 + 1) x2 x5 (σ1011))))) (x1 + 1) x2 (σ1009))) (x1 + 1) x4 x6 (σ1007))) x1 (x1 + 1) (σ1004))) ∧ (r1003 = 0 → (q_X8_countFrom_96 n c rec post kE_102 kc_24) x1 x2 x4 x5 x6 (σ1004)))) x1 x4 x6 (σ))))))
def q_X8_countFrom_b (n : Nat) (c : Nat) (rec : (Int32 → Mem → Prop) → Int32 → Int32 → Int32 → Mem → Prop) (post : Int32 → Mem → Prop) (p1 : Int32) (p2 : Int32) (p3 : Int32) (σ : Mem) : Prop := (∀ v1 : Int32, v1 = (p1 - 1) → ((v1 ≠ ((σ) 0 3) → (∃ n9 : Nat, lp_6 (q_X8_countFrom_24 n c rec post (q_X8_countFrom_102 n c rec post)) n9 p1 p2 v1 p3 0 (σ))) ∧ (v1 = ((σ) 0 3) → post (p3 + 1) (σ))))
def q_X8_countFrom (n : Nat) (c : Nat) : Nat → (Int32 → Mem → Prop) → Int32 → Int32 → Int32 → Mem → Prop
  | 0, _, _, _, _, _ => False
  | d + 1, post, p1, p2, p3, σ => q_X8_countFrom_b n c (q_X8_countFrom n c d) post p1 p2 p3 σ
abbrev rm_X8_countFrom (d : Nat) : Room := { frames := d + 10, cells := 0, slots := 0, locals := d * 40 + 600 }
abbrev wq_X8_countFrom : List Cond := Cond.code yX8_countFrom cX8_countFrom 7 (some .int) :: wALL
set_option maxHeartbeats 4000000 in
set_option maxRecDepth 100000 in
theorem c_X8_countFrom (l : Launch) (D : va_G) (k ad g : Nat → Nat) (hg : gok g) : ∀ (d9 : Nat) {sz : Nat} {σ : Mem} {p1 : Int32} {p2 : Int32} {p3 : Int32} {post : Int32 → Mem → Prop} (hp : q_X8_countFrom (g 0) (g 2) d9 post p1 p2 p3 σ), Met l yX8_countFrom wq_X8_countFrom (rm_X8_countFrom d9) (va_Pc [.ref (ad 0), .int p1, .int p2, .int p3] (Pw D k (WM k ad g (σ)) sz)) (va_Qi post (fun u => Bw D (WM k ad g (σ)) sz (WM k ad g u)) (va_A (WM k ad g (σ)) sz)) 0 0 (va_A (WM k ad g (σ)) sz) := by
  intro d9
  induction d9 with
  | zero => intro _ _ _ _ _ _ hp; exact hp.elim
  | succ d9 ih9 =>
    intro sz σ p1 p2 p3 post hp
    have hp : q_X8_countFrom_b (g 0) (g 2) (q_X8_countFrom (g 0) (g 2) d9) post p1 p2 p3 σ := hp
    refine fw_i (wf := fun u : Mem => WM k ad g u) (by decide) rfl (Nat.le_of_ble_eq_true rfl) ?_
    intro p e s m args below meth c A Q ls hC hP hD hl hret
    obtain ⟨⟨hx, hb, hml, hown, hts⟩, hG, hA⟩ := id hC
    have hK := hG.1
    have hS : va_S A s.heap s.heap [] := va_S.rf
    have hin_X8 : ∀ w ∈ u_ws RX8 TX8 15, w ∈ wq_X8_countFrom := fun w h => List.mem_cons_of_mem _ (iU_X8 w h)
    have hf_45 := hts _ (List.mem_cons_of_mem _ A_598)
    have hl : lv_has ls 7 [(0, .ref (ad 0)), (1, .int p1), (2, .int p2), (3, .int p3)] := hl
    have hown : s.vm.findClass RX8 = some m.cls := hown
    unfold q_X8_countFrom_b at hp
    have B_102 : ∀ (x5 : Int32) (σ : Mem) (H : Heap) (locs : List Loc) (ls : Array Slot), va_P D vwCl (WM k ad g (σ)) H → va_D A (WM k ad g (σ)) → va_S A s.heap H locs → lv_has ls 7 [(5, .int x5)] → (q_X8_countFrom_102 (g 0) (g 2) (q_X8_countFrom (g 0) (g 2) d9) post) x5 σ → W p l e (rm_X8_countFrom (d9 + 1)) s m args below meth c H locs 0 0 Q (F0 m 102 ls []) := by
      intro x5 σ H locs ls hP hD hS hl hp
      unfold q_X8_countFrom_102 at hp
      refine lv_iload hx hb dX8_countFrom_102 (lv_at hl 0 rfl) ?_
      exact hret x5 (σ) _ _ _ _ _ _ dX8_countFrom_104 rfl hP hD hS (Nat.le_of_ble_eq_true rfl) (Nat.le_of_ble_eq_true rfl) hp
    have B_24 : ∀ (n_24 : Nat) (x1 : Int32) (x2 : Int32) (x4 : Int32) (x5 : Int32) (x6 : Int32) (σ : Mem) (H : Heap) (locs : List Loc) (ls : Array Slot), va_P D vwCl (WM k ad g (σ)) H → va_D A (WM k ad g (σ)) → va_S A s.heap H locs → lv_has ls 7 [(0, .ref (ad 0)), (1, .int x1), (2, .int x2), (4, .int x4), (5, .int x5), (6, .int x6)] → lp_6 (q_X8_countFrom_24 (g 0) (g 2) (q_X8_countFrom (g 0) (g 2) d9) post (q_X8_countFrom_102 (g 0) (g 2) (q_X8_countFrom (g 0) (g 2) d9) post)) n_24 x1 x2 x4 x5 x6 σ → W p l e (rm_X8_countFrom (d9 + 1)) s m args below meth c H locs 0 0 Q (F0 m 24 ls []) := by
      intro n_24
      induction n_24 with
      | zero => intro x1 x2 x4 x5 x6 σ H locs ls hP hD hS hl hp; exact hp.elim
      | succ n_24 ih_24 =>
        have B_96 : ∀ (x1 : Int32) (x2 : Int32) (x4 : Int32) (x5 : Int32) (x6 : Int32) (σ : Mem) (H : Heap) (locs : List Loc) (ls : Array Slot), va_P D vwCl (WM k ad g (σ)) H → va_D A (WM k ad g (σ)) → va_S A s.heap H locs → lv_has ls 7 [(0, .ref (ad 0)), (1, .int x1), (2, .int x2), (4, .int x4), (5, .int x5), (6, .int x6)] → (q_X8_countFrom_96 (g 0) (g 2) (q_X8_countFrom (g 0) (g 2) d9) post (q_X8_countFrom_102 (g 0) (g 2) (q_X8_countFrom (g 0) (g 2) d9) post) (lp_6 (q_X8_countFrom_24 (g 0) (g 2) (q_X8_countFrom (g 0) (g 2) d9) post (q_X8_countFrom_102 (g 0) (g 2) (q_X8_countFrom (g 0) (g 2) d9) post)) n_24)) x1 x2 x4 x5 x6 σ → W p l e (rm_X8_countFrom (d9 + 1)) s m args below meth c H locs 0 0 Q (F0 m 96 ls []) := by
          intro x1 x2 x4 x5 x6 σ H locs ls hP hD hS hl hp
          unfold q_X8_countFrom_96 at hp
          obtain ⟨v20001, ev20001⟩ : ∃ z : Int32, z = x6 + 1 := ⟨_, rfl⟩
          have hp := hp v20001 ev20001
          refine lv_iinc (v := v20001) (lv' := [(6, .int v20001), (0, .ref (ad 0)), (1, .int x1), (2, .int x2), (4, .int x4), (5, .int x5)]) hx hb dX8_countFrom_96 hl (k := 5) rfl (by rw [ev20001]; rfl) (by decide) rfl (fun ls hl => ?_)
          refine lv_goto (tgt := 24) hx hb dX8_countFrom_99 (by decide) ?_
          exact ih_24 x1 x2 x4 x5 v20001 (σ) _ _ _  hP hD hS (lv_sub hl [1, 2, 3, 4, 5, 0] rfl) hp
        intro x1 x2 x4 x5 x6 σ H locs ls hP hD hS hl hp
        have hp : q_X8_countFrom_24 (g 0) (g 2) (q_X8_countFrom (g 0) (g 2) d9) post (q_X8_countFrom_102 (g 0) (g 2) (q_X8_countFrom (g 0) (g 2) d9) post) (lp_6 (q_X8_countFrom_24 (g 0) (g 2) (q_X8_countFrom (g 0) (g 2) d9) post (q_X8_countFrom_102 (g 0) (g 2) (q_X8_countFrom (g 0) (g 2) d9) post)) n_24) x1 x2 x4 x5 x6 σ := hp
        unfold q_X8_countFrom_24 at hp
        refine lv_iload hx hb dX8_countFrom_24 (lv_at hl 5 rfl) ?_
        refine lv_bipush (v := 8) hx hb dX8_countFrom_26 (by decide) ?_
        refine lv_icmp_ge (tgt := 102) hx hb dX8_countFrom_28 (by decide) (fun c10001 => ?_) (fun c10001 => ?_)
        · have hp := hp.1 c10001
          exact B_102 x5 (σ) _ _ _  hP hD hS (lv_sub hl [4] rfl) hp
        · have hp := hp.2 c10001
          refine lv_iload hx hb dX8_countFrom_31 (lv_at hl 4 rfl) ?_
          refine lv_sipush (v := 500) hx hb dX8_countFrom_33 (by decide) ?_
          refine lv_icmp_ge (tgt := 102) hx hb dX8_countFrom_36 (by decide) (fun c10002 => ?_) (fun c10002 => ?_)
          · have hp := hp.1 c10002
            exact B_102 x5 (σ) _ _ _  hP hD hS (lv_sub hl [4] rfl) hp
          · have hp := hp.2 c10002
            refine lv_aload_n hx hb dX8_countFrom_39 rfl (lv_at hl 0 rfl) ?_
            refine lv_iload_n hx hb dX8_countFrom_40 rfl (lv_at hl 1 rfl) ?_
            refine lv_iload hx hb dX8_countFrom_41 (lv_at hl 3 rfl) ?_
            refine lv_iload hx hb dX8_countFrom_43 (lv_at hl 5 rfl) ?_
            refine fw_ciV (As := [.int x1, .int x4, .int x6]) (rest := []) hC (c_X8_canBe l D k ad g hg hp) (cwV 3 hts (gA_V A_743 A_744 A_745 A_601 A_701) rfl rfl rfl (by decide +kernel) ⟨by show 1 + 1 ≤ d9 + 1 + 10; omega, by show 8 + (4 + 11) + 22 ≤ (d9 + 1) * 40 + 600; omega⟩) (va_recv hK hP (ci := 12) (q0 := 0) rfl rfl) rfl hl.1 rfl (Nat.le_of_ble_eq_true rfl) dX8_countFrom_45 ⟨Nat.le_of_ble_eq_true rfl, Nat.le_of_ble_eq_true rfl⟩ hP hD hS Jn.same (fun r10003 σ10004 H locs hP hD hS hp => ?_)
            have hP : va_P D vwCl (WM k ad g (σ10004)) H := hP
            have hD : va_D A (WM k ad g (σ10004)) := hD
            refine lv_if_ne (tgt := 54) hx hb dX8_countFrom_48 (by decide) (fun c10005 => ?_) (fun c10005 => ?_)
            · have hp := hp.1 c10005
              refine lv_aload_n hx hb dX8_countFrom_54 rfl (lv_at hl 0 rfl) ?_
              refine lv_iload_n hx hb dX8_countFrom_55 rfl (lv_at hl 1 rfl) ?_
              refine lv_iload_n hx hb dX8_countFrom_56 rfl (lv_at hl 1 rfl) ?_
              refine lv_iconst (v := 1) hx hb dX8_countFrom_57 (by decide) ?_
              refine lv_iadd hx hb dX8_countFrom_58 ?_
              refine fw_cvV (As := [.int x1, .int (x1 + 1)]) (rest := []) hC (c_X8_copy l D k ad g hg hp) (cwV 2 hts (gA_V A_746 A_747 A_748 A_601 A_688) rfl rfl rfl (by decide +kernel) ⟨by show 1 + 1 ≤ d9 + 1 + 10; omega, by show 8 + (3 + 11) + 80 ≤ (d9 + 1) * 40 + 600; omega⟩) (va_recv hK hP (ci := 12) (q0 := 0) rfl rfl) rfl hl.1 rfl (Nat.le_of_ble_eq_true rfl) dX8_countFrom_59 ⟨Nat.le_of_ble_eq_true rfl, Nat.le_of_ble_eq_true rfl⟩ hP hD hS Jn.same (fun σ10007 H locs hP hD hS hp => ?_)
              have hP : va_P D vwCl (WM k ad g (σ10007)) H := hP
              have hD : va_D A (WM k ad g (σ10007)) := hD
              refine lv_aload_n hx hb dX8_countFrom_62 rfl (lv_at hl 0 rfl) ?_
              refine lv_iload_n hx hb dX8_countFrom_63 rfl (lv_at hl 1 rfl) ?_
              refine lv_iconst (v := 1) hx hb dX8_countFrom_64 (by decide) ?_
              refine lv_iadd hx hb dX8_countFrom_65 ?_
              refine lv_iload hx hb dX8_countFrom_66 (lv_at hl 3 rfl) ?_
              refine lv_iload hx hb dX8_countFrom_68 (lv_at hl 5 rfl) ?_
              refine fw_cvV (As := [.int (x1 + 1), .int x4, .int x6]) (rest := []) hC (c_X8_only l D k ad g hg hp) (cwV 3 hts (gA_V A_749 A_750 A_751 A_601 A_725) rfl rfl rfl (by decide +kernel) ⟨by show 0 + 1 ≤ d9 + 1 + 10; omega, by show 8 + (4 + 11) + 0 ≤ (d9 + 1) * 40 + 600; omega⟩) (va_recv hK hP (ci := 12) (q0 := 0) rfl rfl) rfl hl.1 rfl (Nat.le_of_ble_eq_true rfl) dX8_countFrom_70 ⟨Nat.le_of_ble_eq_true rfl, Nat.le_of_ble_eq_true rfl⟩ hP hD hS Jn.same (fun σ10009 H locs hP hD hS hp => ?_)
              have hP : va_P D vwCl (WM k ad g (σ10009)) H := hP
              have hD : va_D A (WM k ad g (σ10009)) := hD
              refine lv_aload_n hx hb dX8_countFrom_73 rfl (lv_at hl 0 rfl) ?_
              refine lv_iload_n hx hb dX8_countFrom_74 rfl (lv_at hl 1 rfl) ?_
              refine lv_iconst (v := 1) hx hb dX8_countFrom_75 (by decide) ?_
              refine lv_iadd hx hb dX8_countFrom_76 ?_
              refine lv_iload_n hx hb dX8_countFrom_77 rfl (lv_at hl 2 rfl) ?_
              refine fw_ciV (As := [.int (x1 + 1), .int x2]) (rest := []) hC (c_X8_meet l D k ad g hg hp) (cwV 2 hts (gA_V A_721 A_722 A_723 A_601 A_717) rfl rfl rfl (by decide +kernel) ⟨by show 4 + 1 ≤ d9 + 1 + 10; omega, by show 8 + (6 + 11) + 260 ≤ (d9 + 1) * 40 + 600; omega⟩) (va_recv hK hP (ci := 12) (q0 := 0) rfl rfl) rfl hl.1 rfl (Nat.le_of_ble_eq_true rfl) dX8_countFrom_78 ⟨Nat.le_of_ble_eq_true rfl, Nat.le_of_ble_eq_true rfl⟩ hP hD hS Jn.same (fun r10010 σ10011 H locs hP hD hS hp => ?_)
              have hP : va_P D vwCl (WM k ad g (σ10011)) H := hP
              have hD : va_D A (WM k ad g (σ10011)) := hD
              refine lv_if_ne (tgt := 96) hx hb dX8_countFrom_81 (by decide) (fun c10012 => ?_) (fun c10012 => ?_)
              · have hp := hp.1 c10012
                exact B_96 x1 x2 x4 x5 x6 (σ10011) _ _ _  hP hD hS (lv_sub hl [0, 1, 2, 3, 4, 5] rfl) hp
              · have hp := hp.2 c10012
                refine lv_aload_n hx hb dX8_countFrom_84 rfl (lv_at hl 0 rfl) ?_
                refine lv_iload_n hx hb dX8_countFrom_85 rfl (lv_at hl 1 rfl) ?_
                refine lv_iconst (v := 1) hx hb dX8_countFrom_86 (by decide) ?_
                refine lv_iadd hx hb dX8_countFrom_87 ?_
                refine lv_iload_n hx hb dX8_countFrom_88 rfl (lv_at hl 2 rfl) ?_
                refine lv_iload hx hb dX8_countFrom_89 (lv_at hl 4 rfl) ?_
                refine fw_ciV (As := [.int (x1 + 1), .int x2, .int x5]) (rest := []) hC (ih9 hp) (cwV 3 hts (gA_V A_774 A_775 A_776 A_601 A_777) rfl rfl rfl (by decide +kernel) ⟨by show d9 + 10 + 1 ≤ d9 + 1 + 10; omega, by show 8 + (7 + 11) + (d9 * 40 + 600) ≤ (d9 + 1) * 40 + 600; omega⟩) (va_recv hK hP (ci := 12) (q0 := 0) rfl rfl) rfl hl.1 rfl (Nat.le_of_ble_eq_true rfl) dX8_countFrom_91 ⟨Nat.le_of_ble_eq_true rfl, Nat.le_of_ble_eq_true rfl⟩ hP hD hS Jn.same (fun r10013 σ10014 H locs hP hD hS hp => ?_)
                have hP : va_P D vwCl (WM k ad g (σ10014)) H := hP
                have hD : va_D A (WM k ad g (σ10014)) := hD
                refine lv_istore (lv' := [(5, .int r10013), (0, .ref (ad 0)), (1, .int x1), (2, .int x2), (4, .int x4), (6, .int x6)]) hx hb dX8_countFrom_94 hl (by decide) rfl (fun ls hl => ?_)
                exact B_96 x1 x2 x4 r10013 x6 (σ10014) _ _ _  hP hD hS (lv_sub hl [1, 2, 3, 4, 0, 5] rfl) hp
            · have hp := hp.2 c10005
              refine lv_goto (tgt := 96) hx hb dX8_countFrom_51 (by decide) ?_
              exact B_96 x1 x2 x4 x5 x6 (σ10004) _ _ _  hP hD hS (lv_sub hl [0, 1, 2, 3, 4, 5] rfl) hp
    refine lv_iload_n hx hb dX8_countFrom_0 rfl (lv_at hl 1 rfl) ?_
    refine lv_iconst (v := 1) hx hb dX8_countFrom_1 (by decide) ?_
    refine lv_isub hx hb dX8_countFrom_2 ?_
    refine lv_topi (fun v1 ev1 => ?_)
    have hp := hp v1 ev1
    refine lv_istore (lv' := [(4, .int v1), (0, .ref (ad 0)), (1, .int p1), (2, .int p2), (3, .int p3)]) hx hb dX8_countFrom_3 hl (by decide) rfl (fun ls hl => ?_)
    refine lv_iload hx hb dX8_countFrom_5 (lv_at hl 0 rfl) ?_
    refine lv_aload_n hx hb dX8_countFrom_7 rfl (lv_at hl 1 rfl) ?_
    refine va_get (D := D) (ci := 12) (C := RX8) (T := TX8) (N := 15) hx hb hts hin_X8 hown hK hP 0 rfl rfl 3 (by decide) hf_45 (fun _ h9 => h9) rfl dX8_countFrom_8 ?_
    refine lv_icmp_ne (tgt := 18) hx hb dX8_countFrom_11 (by decide) (fun c2 => ?_) (fun c2 => ?_)
    · have hp := hp.1 c2
      refine lv_iload_n hx hb dX8_countFrom_18 rfl (lv_at hl 4 rfl) ?_
      refine lv_istore (lv' := [(5, .int p3), (4, .int v1), (0, .ref (ad 0)), (1, .int p1), (2, .int p2), (3, .int p3)]) hx hb dX8_countFrom_19 hl (by decide) rfl (fun ls hl => ?_)
      refine lv_iconst (v := 0) hx hb dX8_countFrom_21 (by decide) ?_
      refine lv_istore (lv' := [(6, .int 0), (5, .int p3), (4, .int v1), (0, .ref (ad 0)), (1, .int p1), (2, .int p2), (3, .int p3)]) hx hb dX8_countFrom_22 hl (by decide) rfl (fun ls hl => ?_)
      obtain ⟨n9, hp⟩ := hp
      exact B_24 n9 p1 p2 v1 p3 0 (σ) _ _ _  hP hD hS (lv_sub hl [3, 4, 5, 2, 1, 0] rfl) hp
    · have hp := hp.2 c2
      refine lv_iload_n hx hb dX8_countFrom_14 rfl (lv_at hl 4 rfl) ?_
      refine lv_iconst (v := 1) hx hb dX8_countFrom_15 (by decide) ?_
      refine lv_iadd hx hb dX8_countFrom_16 ?_
      exact hret (p3 + 1) (σ) _ _ _ _ _ _ dX8_countFrom_17 rfl hP hD hS (Nat.le_of_ble_eq_true rfl) (Nat.le_of_ble_eq_true rfl) hp
