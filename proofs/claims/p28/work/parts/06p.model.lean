def q_X8_isEmpty_27 (n : Nat) (c : Nat) (post : Int32 → Mem → Prop)  (σ : Mem) : Prop := post 0 (σ)
def q_X8_isEmpty_19 (n : Nat) (c : Nat) (post : Int32 → Mem → Prop)  (σ : Mem) : Prop := post 1 (σ)
def q_X8_isEmpty_2 (n : Nat) (c : Nat) (post : Int32 → Mem → Prop) (kE_19 : Mem → Prop) (kE_27 : Mem → Prop) (kc_2 : Int32 → Int32 → Mem → Prop) (x1 : Int32) (x2 : Int32) (σ : Mem) : Prop := ((((σ) 0 3) ≤ x2 → kE_27 (σ)) ∧ (¬ (((σ) 0 3) ≤ x2) → (q_X8_setOf n c (fun (r1002 : Int32) (σ1003 : Mem) => ((r1002 ≠ 0 → (∀ v1005 : Int32, v1005 = x2 + 1 → kc_2 x1 v1005 (σ1003))) ∧ (r1002 = 0 → kE_19 (σ1003)))) x1 x2 (σ))))
def q_X8_isEmpty (n : Nat) (c : Nat) (post : Int32 → Mem → Prop) (p1 : Int32) (σ : Mem) : Prop := (∃ n9 : Nat, lp_3 (q_X8_isEmpty_2 n c post (q_X8_isEmpty_19 n c post) (q_X8_isEmpty_27 n c post)) n9 p1 0 (σ))
abbrev rm_X8_isEmpty : Room := { frames := 1, cells := 0, slots := 0, locals := 22 }
abbrev wq_X8_isEmpty : List Cond := Cond.code yX8_isEmpty cX8_isEmpty 3 (some .boolean) :: wALL
set_option maxHeartbeats 4000000 in
set_option maxRecDepth 100000 in
theorem c_X8_isEmpty (l : Launch) (D : va_G) (k ad g : Nat → Nat) (hg : gok g) {sz : Nat} {σ : Mem} {p1 : Int32} {post : Int32 → Mem → Prop} (hp : q_X8_isEmpty (g 0) (g 2) post p1 σ) : Met l yX8_isEmpty wq_X8_isEmpty rm_X8_isEmpty (va_Pc [.ref (ad 0), .int p1] (Pw D k (WM k ad g (σ)) sz)) (va_Qi post (fun u => Bw D (WM k ad g (σ)) sz (WM k ad g u)) (va_A (WM k ad g (σ)) sz)) 0 0 (va_A (WM k ad g (σ)) sz) := by
  refine fw_i (wf := fun u : Mem => WM k ad g u) (by decide) rfl (Nat.le_of_ble_eq_true rfl) ?_
  intro p e s m args below meth c A Q ls hC hP hD hl hret
  obtain ⟨⟨hx, hb, hml, hown, hts⟩, hG, hA⟩ := id hC
  have hK := hG.1
  have hS : va_S A s.heap s.heap [] := va_S.rf
  have hin_X8 : ∀ w ∈ u_ws RX8 TX8 15, w ∈ wq_X8_isEmpty := fun w h => List.mem_cons_of_mem _ (iU_X8 w h)
  have hf_45 := hts _ (List.mem_cons_of_mem _ A_598)
  have hl : lv_has ls 3 [(0, .ref (ad 0)), (1, .int p1)] := hl
  have hown : s.vm.findClass RX8 = some m.cls := hown
  unfold q_X8_isEmpty at hp
  have B_27 : ∀  (σ : Mem) (H : Heap) (locs : List Loc) (ls : Array Slot), va_P D vwCl (WM k ad g (σ)) H → va_D A (WM k ad g (σ)) → va_S A s.heap H locs → lv_has ls 3 [] → (q_X8_isEmpty_27 (g 0) (g 2) post)  σ → W p l e rm_X8_isEmpty s m args below meth c H locs 0 0 Q (F0 m 27 ls []) := by
    intro  σ H locs ls hP hD hS hl hp
    unfold q_X8_isEmpty_27 at hp
    refine lv_iconst (v := 0) hx hb dX8_isEmpty_27 (by decide) ?_
    exact hret 0 (σ) _ _ _ _ _ _ dX8_isEmpty_28 (by decide) hP hD hS (Nat.le_of_ble_eq_true rfl) (Nat.le_of_ble_eq_true rfl) hp
  have B_19 : ∀  (σ : Mem) (H : Heap) (locs : List Loc) (ls : Array Slot), va_P D vwCl (WM k ad g (σ)) H → va_D A (WM k ad g (σ)) → va_S A s.heap H locs → lv_has ls 3 [] → (q_X8_isEmpty_19 (g 0) (g 2) post)  σ → W p l e rm_X8_isEmpty s m args below meth c H locs 0 0 Q (F0 m 19 ls []) := by
    intro  σ H locs ls hP hD hS hl hp
    unfold q_X8_isEmpty_19 at hp
    refine lv_iconst (v := 1) hx hb dX8_isEmpty_19 (by decide) ?_
    exact hret 1 (σ) _ _ _ _ _ _ dX8_isEmpty_20 (by decide) hP hD hS (Nat.le_of_ble_eq_true rfl) (Nat.le_of_ble_eq_true rfl) hp
  have B_2 : ∀ (n_2 : Nat) (x1 : Int32) (x2 : Int32) (σ : Mem) (H : Heap) (locs : List Loc) (ls : Array Slot), va_P D vwCl (WM k ad g (σ)) H → va_D A (WM k ad g (σ)) → va_S A s.heap H locs → lv_has ls 3 [(0, .ref (ad 0)), (1, .int x1), (2, .int x2)] → lp_3 (q_X8_isEmpty_2 (g 0) (g 2) post (q_X8_isEmpty_19 (g 0) (g 2) post) (q_X8_isEmpty_27 (g 0) (g 2) post)) n_2 x1 x2 σ → W p l e rm_X8_isEmpty s m args below meth c H locs 0 0 Q (F0 m 2 ls []) := by
    intro n_2
    induction n_2 with
    | zero => intro x1 x2 σ H locs ls hP hD hS hl hp; exact hp.elim
    | succ n_2 ih_2 =>
      intro x1 x2 σ H locs ls hP hD hS hl hp
      have hp : q_X8_isEmpty_2 (g 0) (g 2) post (q_X8_isEmpty_19 (g 0) (g 2) post) (q_X8_isEmpty_27 (g 0) (g 2) post) (lp_3 (q_X8_isEmpty_2 (g 0) (g 2) post (q_X8_isEmpty_19 (g 0) (g 2) post) (q_X8_isEmpty_27 (g 0) (g 2) post)) n_2) x1 x2 σ := hp
      unfold q_X8_isEmpty_2 at hp
      refine lv_iload_n hx hb dX8_isEmpty_2 rfl (lv_at hl 2 rfl) ?_
      refine lv_aload_n hx hb dX8_isEmpty_3 rfl (lv_at hl 0 rfl) ?_
      refine va_get (D := D) (ci := 12) (C := RX8) (T := TX8) (N := 15) hx hb hts hin_X8 hown hK hP 0 rfl rfl 3 (by decide) hf_45 (fun _ h9 => h9) rfl dX8_isEmpty_4 ?_
      refine lv_icmp_ge (tgt := 27) hx hb dX8_isEmpty_7 (by decide) (fun c10001 => ?_) (fun c10001 => ?_)
      · have hp := hp.1 c10001
        exact B_27  (σ) _ _ _  hP hD hS (lv_sub hl [] rfl) hp
      · have hp := hp.2 c10001
        refine lv_aload_n hx hb dX8_isEmpty_10 rfl (lv_at hl 0 rfl) ?_
        refine lv_iload_n hx hb dX8_isEmpty_11 rfl (lv_at hl 1 rfl) ?_
        refine lv_iload_n hx hb dX8_isEmpty_12 rfl (lv_at hl 2 rfl) ?_
        refine fw_ciV (As := [.int x1, .int x2]) (rest := []) hC (c_X8_setOf l D k ad g hg hp) (cwV 2 hts (gA_V A_692 A_693 A_694 A_601 A_690) rfl rfl rfl (by decide +kernel) ⟨Nat.le_of_ble_eq_true rfl, Nat.le_of_ble_eq_true rfl⟩) (va_recv hK hP (ci := 12) (q0 := 0) rfl rfl) rfl hl.1 rfl (Nat.le_of_ble_eq_true rfl) dX8_isEmpty_13 ⟨Nat.le_of_ble_eq_true rfl, Nat.le_of_ble_eq_true rfl⟩ hP hD hS Jn.same (fun r10002 σ10003 H locs hP hD hS hp => ?_)
        have hP : va_P D vwCl (WM k ad g (σ10003)) H := hP
        have hD : va_D A (WM k ad g (σ10003)) := hD
        refine lv_if_ne (tgt := 21) hx hb dX8_isEmpty_16 (by decide) (fun c10004 => ?_) (fun c10004 => ?_)
        · have hp := hp.1 c10004
          obtain ⟨v10005, ev10005⟩ : ∃ z : Int32, z = x2 + 1 := ⟨_, rfl⟩
          have hp := hp v10005 ev10005
          refine lv_iinc (v := v10005) (lv' := [(2, .int v10005), (0, .ref (ad 0)), (1, .int x1)]) hx hb dX8_isEmpty_21 hl (k := 2) rfl (by rw [ev10005]; rfl) (by decide) rfl (fun ls hl => ?_)
          refine lv_goto (tgt := 2) hx hb dX8_isEmpty_24 (by decide) ?_
          exact ih_2 x1 v10005 (σ10003) _ _ _  hP hD hS (lv_sub hl [1, 2, 0] rfl) hp
        · have hp := hp.2 c10004
          exact B_19  (σ10003) _ _ _  hP hD hS (lv_sub hl [] rfl) hp
  refine lv_iconst (v := 0) hx hb dX8_isEmpty_0 (by decide) ?_
  refine lv_istore_n (lv' := [(2, .int 0), (0, .ref (ad 0)), (1, .int p1)]) hx hb dX8_isEmpty_1 rfl hl (by decide) rfl (fun ls hl => ?_)
  obtain ⟨n9, hp⟩ := hp
  exact B_2 n9 p1 0 (σ) _ _ _  hP hD hS (lv_sub hl [1, 2, 0] rfl) hp
def q_X8_meet_156 (n : Nat) (c : Nat) (post : Int32 → Mem → Prop)  (x4 : Int32) (σ : Mem) : Prop := (bz x4 ∧ post x4 (σ))
def q_X8_meet_127 (n : Nat) (c : Nat) (post : Int32 → Mem → Prop) (kE_156 : Int32 → Mem → Prop) (kc_127 : Int32 → Int32 → Int32 → Mem → Prop) (x1 : Int32) (x4 : Int32) (x5 : Int32) (σ : Mem) : Prop := ((5 ≤ x5 → kE_156 x4 (σ)) ∧ (¬ (5 ≤ x5) → ((x4 = 0 → kE_156 x4 (σ)) ∧ (¬ (x4 = 0) → (vp_in ((x1 * 5) + x5) 35 ∧ (∀ σ6004 : Mem, σ6004 = mst (σ) 7 (((x1 * 5) + x5).toNatClampNeg) 0 → (∀ v6005 : Int32, v6005 = x5 + 1 → kc_127 x1 x4 v6005 (σ6004))))))))
def q_X8_meet_117 (n : Nat) (c : Nat) (post : Int32 → Mem → Prop)  (x1 : Int32) (σ : Mem) : Prop := (q_X8_isEmpty n c (fun (r5001 : Int32) (σ5002 : Mem) => (∃ n9 : Nat, lp_4 (q_X8_meet_127 n c post (q_X8_meet_156 n c post)) n9 x1 r5001 0 (σ5002))) x1 (σ))
def q_X8_meet_114 (n : Nat) (c : Nat) (post : Int32 → Mem → Prop) (kE_117 : Int32 → Mem → Prop) (kc_2 : Int32 → Int32 → Int32 → Mem → Prop) (x1 : Int32) (x2 : Int32) (x3 : Int32) (σ : Mem) : Prop := kc_2 x1 x2 x3 (σ)
def q_X8_meet_108 (n : Nat) (c : Nat) (post : Int32 → Mem → Prop) (kE_114 : Int32 → Int32 → Int32 → Mem → Prop) (kc_19 : Int32 → Int32 → Int32 → Int32 → Mem → Prop) (x1 : Int32) (x2 : Int32) (x3 : Int32) (x4 : Int32) (σ : Mem) : Prop := (∀ v3001 : Int32, v3001 = x4 + 1 → kc_19 x1 x2 x3 v3001 (σ))
def q_X8_meet_19 (n : Nat) (c : Nat) (post : Int32 → Mem → Prop) (kE_114 : Int32 → Int32 → Int32 → Mem → Prop) (kc_19 : Int32 → Int32 → Int32 → Int32 → Mem → Prop) (x1 : Int32) (x2 : Int32) (x3 : Int32) (x4 : Int32) (σ : Mem) : Prop := (((nI n) ≤ x4 → kE_114 x1 x2 x3 (σ)) ∧ (¬ ((nI n) ≤ x4) → ((((x2 >>> (x4 &&& 31)) &&& 1) ≠ 0 → (∃ j2003 : Nat, (j2003 < n ∧ x4 = nI j2003) ∧ ((((σ) (100 + j2003) 0) ≠ 5 → (q_X8_takes n c j2003 (fun (r2005 : Int32) (σ2006 : Mem) => (∀ v2007 : Int32, v2007 = (x3 ||| r2005) → ((((σ2006) (100 + j2003) 0) ≤ 2 → (q_X8_meet_108 n c post kE_114 kc_19) x1 x2 v2007 x4 (σ2006)) ∧ (¬ (((σ2006) (100 + j2003) 0) ≤ 2) → (q_X8_takes n c j2003 (fun (r2009 : Int32) (σ2010 : Mem) => (∀ v2011 : Int32, v2011 = (v2007 ||| r2009) → (q_X8_meet_108 n c post kE_114 kc_19) x1 x2 v2011 x4 (σ2010))) x1 ((σ2006) (100 + j2003) 3) (σ2006)))))) x1 ((σ) (100 + j2003) 2) (σ))) ∧ (((σ) (100 + j2003) 0) = 5 → (q_X8_meet_108 n c post kE_114 kc_19) x1 x2 x3 x4 (σ))))) ∧ (((x2 >>> (x4 &&& 31)) &&& 1) = 0 → (q_X8_meet_108 n c post kE_114 kc_19) x1 x2 x3 x4 (σ)))))
def q_X8_meet_2 (n : Nat) (c : Nat) (post : Int32 → Mem → Prop) (kE_117 : Int32 → Mem → Prop) (kc_2 : Int32 → Int32 → Int32 → Mem → Prop) (x1 : Int32) (x2 : Int32) (x3 : Int32) (σ : Mem) : Prop := ((x3 = 0 → kE_117 x1 (σ)) ∧ (¬ (x3 = 0) → (q_X8_isEmpty n c (fun (r1002 : Int32) (σ1003 : Mem) => ((r1002 ≠ 0 → kE_117 x1 (σ1003)) ∧ (r1002 = 0 → (∃ n9 : Nat, lp_5 (q_X8_meet_19 n c post (q_X8_meet_114 n c post kE_117 kc_2)) n9 x1 x2 0 0 (σ1003))))) x1 (σ))))
def q_X8_meet (n : Nat) (c : Nat) (post : Int32 → Mem → Prop) (p1 : Int32) (p2 : Int32) (σ : Mem) : Prop := (∃ n9 : Nat, lp_4 (q_X8_meet_2 n c post (q_X8_meet_117 n c post)) n9 p1 p2 1 (σ))
abbrev rm_X8_meet : Room := { frames := 4, cells := 0, slots := 0, locals := 260 }
abbrev wq_X8_meet : List Cond := Cond.code yX8_meet cX8_meet 6 (some .boolean) :: wALL
set_option maxHeartbeats 4000000 in
set_option maxRecDepth 100000 in
theorem c_X8_meet (l : Launch) (D : va_G) (k ad g : Nat → Nat) (hg : gok g) {sz : Nat} {σ : Mem} {p1 : Int32} {p2 : Int32} {post : Int32 → Mem → Prop} (hp : q_X8_meet (g 0) (g 2) post p1 p2 σ) : Met l yX8_meet wq_X8_meet rm_X8_meet (va_Pc [.ref (ad 0), .int p1, .int p2] (Pw D k (WM k ad g (σ)) sz)) (va_Qi post (fun u => Bw D (WM k ad g (σ)) sz (WM k ad g u)) (va_A (WM k ad g (σ)) sz)) 0 0 (va_A (WM k ad g (σ)) sz) := by
  refine fw_i (wf := fun u : Mem => WM k ad g u) (by decide) rfl (Nat.le_of_ble_eq_true rfl) ?_
  intro p e s m args below meth c A Q ls hC hP hD hl hret
  obtain ⟨⟨hx, hb, hml, hown, hts⟩, hG, hA⟩ := id hC
  have hK := hG.1
  have hS : va_S A s.heap s.heap [] := va_S.rf
  have hin_X8 : ∀ w ∈ u_ws RX8 TX8 15, w ∈ wq_X8_meet := fun w h => List.mem_cons_of_mem _ (iU_X8 w h)
  have hf_19 := hts _ (List.mem_cons_of_mem _ A_584)
  have hin_X7 : ∀ w ∈ u_ws RX7 TX7 7, w ∈ wq_X8_meet := fun w h => List.mem_cons_of_mem _ (iU_X7 w h)
  have hf_32 := hts _ (List.mem_cons_of_mem _ A_588)
  have hl : lv_has ls 6 [(0, .ref (ad 0)), (1, .int p1), (2, .int p2)] := hl
  have hown : s.vm.findClass RX8 = some m.cls := hown
  unfold q_X8_meet at hp
  have B_156 : ∀ (x4 : Int32) (σ : Mem) (H : Heap) (locs : List Loc) (ls : Array Slot), va_P D vwCl (WM k ad g (σ)) H → va_D A (WM k ad g (σ)) → va_S A s.heap H locs → lv_has ls 6 [(4, .int x4)] → (q_X8_meet_156 (g 0) (g 2) post) x4 σ → W p l e rm_X8_meet s m args below meth c H locs 0 0 Q (F0 m 156 ls []) := by
    intro x4 σ H locs ls hP hD hS hl hp
    unfold q_X8_meet_156 at hp
    refine lv_iload hx hb dX8_meet_156 (lv_at hl 0 rfl) ?_
    exact hret x4 (σ) _ _ _ _ _ _ dX8_meet_158 hp.1.1 hP hD hS (Nat.le_of_ble_eq_true rfl) (Nat.le_of_ble_eq_true rfl) hp.2
  have B_127 : ∀ (n_127 : Nat) (x1 : Int32) (x4 : Int32) (x5 : Int32) (σ : Mem) (H : Heap) (locs : List Loc) (ls : Array Slot), va_P D vwCl (WM k ad g (σ)) H → va_D A (WM k ad g (σ)) → va_S A s.heap H locs → lv_has ls 6 [(0, .ref (ad 0)), (1, .int x1), (4, .int x4), (5, .int x5)] → lp_4 (q_X8_meet_127 (g 0) (g 2) post (q_X8_meet_156 (g 0) (g 2) post)) n_127 x1 x4 x5 σ → W p l e rm_X8_meet s m args below meth c H locs 0 0 Q (F0 m 127 ls []) := by
    intro n_127
    induction n_127 with
    | zero => intro x1 x4 x5 σ H locs ls hP hD hS hl hp; exact hp.elim
    | succ n_127 ih_127 =>
      intro x1 x4 x5 σ H locs ls hP hD hS hl hp
      have hp : q_X8_meet_127 (g 0) (g 2) post (q_X8_meet_156 (g 0) (g 2) post) (lp_4 (q_X8_meet_127 (g 0) (g 2) post (q_X8_meet_156 (g 0) (g 2) post)) n_127) x1 x4 x5 σ := hp
      unfold q_X8_meet_127 at hp
      refine lv_iload hx hb dX8_meet_127 (lv_at hl 3 rfl) ?_
      refine lv_iconst (v := 5) hx hb dX8_meet_129 (by decide) ?_
      refine lv_icmp_ge (tgt := 156) hx hb dX8_meet_130 (by decide) (fun c60001 => ?_) (fun c60001 => ?_)
      · have hp := hp.1 c60001
        exact B_156 x4 (σ) _ _ _  hP hD hS (lv_sub hl [2] rfl) hp
      · have hp := hp.2 c60001
        refine lv_iload hx hb dX8_meet_133 (lv_at hl 2 rfl) ?_
        refine lv_if_eq (tgt := 156) hx hb dX8_meet_135 (by decide) (fun c60002 => ?_) (fun c60002 => ?_)
        · have hp := hp.1 c60002
          exact B_156 x4 (σ) _ _ _  hP hD hS (lv_sub hl [2] rfl) hp
        · have hp := hp.2 c60002
          refine lv_aload_n hx hb dX8_meet_138 rfl (lv_at hl 0 rfl) ?_
          refine va_get (D := D) (ci := 12) (C := RX8) (T := TX8) (N := 15) hx hb hts hin_X8 hown hK hP 0 rfl rfl 9 (by decide) hf_32 (fun _ h9 => h9) rfl dX8_meet_139 ?_
          refine lv_iload_n hx hb dX8_meet_142 rfl (lv_at hl 1 rfl) ?_
          refine lv_iconst (v := 5) hx hb dX8_meet_143 (by decide) ?_
          refine lv_imul hx hb dX8_meet_144 ?_
          refine lv_iload hx hb dX8_meet_145 (lv_at hl 3 rfl) ?_
          refine lv_iadd hx hb dX8_meet_147 ?_
          refine lv_iconst (v := 0) hx hb dX8_meet_148 (by decide) ?_
          obtain ⟨h60003, hp⟩ := hp
          refine va_iast hx hb hK hP hD hS 7 0 rfl rfl h60003 dX8_meet_149 (fun H locs hP hD hS => ?_)
          obtain ⟨σ60004, eσ60004⟩ : ∃ z : Mem, z = mst (σ) 7 (((x1 * 5) + x5).toNatClampNeg) 0 := ⟨_, rfl⟩
          have hp := hp σ60004 eσ60004
          have hP : va_P D vwCl (WM k ad g (σ60004)) H := by rw [eσ60004, WM_s (by decide)]; exact hP
          have hD : va_D A (WM k ad g (σ60004)) := by rw [eσ60004, WM_s (by decide)]; exact hD
          obtain ⟨v60005, ev60005⟩ : ∃ z : Int32, z = x5 + 1 := ⟨_, rfl⟩
          have hp := hp v60005 ev60005
          refine lv_iinc (v := v60005) (lv' := [(5, .int v60005), (0, .ref (ad 0)), (1, .int x1), (4, .int x4)]) hx hb dX8_meet_150 hl (k := 3) rfl (by rw [ev60005]; rfl) (by decide) rfl (fun ls hl => ?_)
          refine lv_goto (tgt := 127) hx hb dX8_meet_153 (by decide) ?_
          exact ih_127 x1 x4 v60005 (σ60004) _ _ _  hP hD hS (lv_sub hl [1, 2, 3, 0] rfl) hp
  have B_117 : ∀ (x1 : Int32) (σ : Mem) (H : Heap) (locs : List Loc) (ls : Array Slot), va_P D vwCl (WM k ad g (σ)) H → va_D A (WM k ad g (σ)) → va_S A s.heap H locs → lv_has ls 6 [(0, .ref (ad 0)), (1, .int x1)] → (q_X8_meet_117 (g 0) (g 2) post) x1 σ → W p l e rm_X8_meet s m args below meth c H locs 0 0 Q (F0 m 117 ls []) := by
    intro x1 σ H locs ls hP hD hS hl hp
    unfold q_X8_meet_117 at hp
    refine lv_aload_n hx hb dX8_meet_117 rfl (lv_at hl 0 rfl) ?_
    refine lv_iload_n hx hb dX8_meet_118 rfl (lv_at hl 1 rfl) ?_
    refine fw_ciV (As := [.int x1]) (rest := []) hC (c_X8_isEmpty l D k ad g hg hp) (cwV 1 hts (gA_V A_711 A_712 A_713 A_601 A_710) rfl rfl rfl (by decide +kernel) ⟨Nat.le_of_ble_eq_true rfl, Nat.le_of_ble_eq_true rfl⟩) (va_recv hK hP (ci := 12) (q0 := 0) rfl rfl) rfl hl.1 rfl (Nat.le_of_ble_eq_true rfl) dX8_meet_119 ⟨Nat.le_of_ble_eq_true rfl, Nat.le_of_ble_eq_true rfl⟩ hP hD hS Jn.same (fun r50001 σ50002 H locs hP hD hS hp => ?_)
    have hP : va_P D vwCl (WM k ad g (σ50002)) H := hP
    have hD : va_D A (WM k ad g (σ50002)) := hD
    refine lv_istore (lv' := [(4, .int r50001), (0, .ref (ad 0)), (1, .int x1)]) hx hb dX8_meet_122 hl (by decide) rfl (fun ls hl => ?_)
    refine lv_iconst (v := 0) hx hb dX8_meet_124 (by decide) ?_
    refine lv_istore (lv' := [(5, .int 0), (4, .int r50001), (0, .ref (ad 0)), (1, .int x1)]) hx hb dX8_meet_125 hl (by decide) rfl (fun ls hl => ?_)
    obtain ⟨n9, hp⟩ := hp
    exact B_127 n9 x1 r50001 0 (σ50002) _ _ _  hP hD hS (lv_sub hl [2, 3, 1, 0] rfl) hp
  have B_2 : ∀ (n_2 : Nat) (x1 : Int32) (x2 : Int32) (x3 : Int32) (σ : Mem) (H : Heap) (locs : List Loc) (ls : Array Slot), va_P D vwCl (WM k ad g (σ)) H → va_D A (WM k ad g (σ)) → va_S A s.heap H locs → lv_has ls 6 [(0, .ref (ad 0)), (1, .int x1), (2, .int x2), (3, .int x3)] → lp_4 (q_X8_meet_2 (g 0) (g 2) post (q_X8_meet_117 (g 0) (g 2) post)) n_2 x1 x2 x3 σ → W p l e rm_X8_meet s m args below meth c H locs 0 0 Q (F0 m 2 ls []) := by
    intro n_2
    induction n_2 with
    | zero => intro x1 x2 x3 σ H locs ls hP hD hS hl hp; exact hp.elim
    | succ n_2 ih_2 =>
      have B_114 : ∀ (x1 : Int32) (x2 : Int32) (x3 : Int32) (σ : Mem) (H : Heap) (locs : List Loc) (ls : Array Slot), va_P D vwCl (WM k ad g (σ)) H → va_D A (WM k ad g (σ)) → va_S A s.heap H locs → lv_has ls 6 [(0, .ref (ad 0)), (1, .int x1), (2, .int x2), (3, .int x3)] → (q_X8_meet_114 (g 0) (g 2) post (q_X8_meet_117 (g 0) (g 2) post) (lp_4 (q_X8_meet_2 (g 0) (g 2) post (q_X8_meet_117 (g 0) (g 2) post)) n_2)) x1 x2 x3 σ → W p l e rm_X8_meet s m args below meth c H locs 0 0 Q (F0 m 114 ls []) := by
        intro x1 x2 x3 σ H locs ls hP hD hS hl hp
        unfold q_X8_meet_114 at hp
        refine lv_goto (tgt := 2) hx hb dX8_meet_114 (by decide) ?_
        exact ih_2 x1 x2 x3 (σ) _ _ _  hP hD hS (lv_sub hl [0, 1, 2, 3] rfl) hp
      have B_19 : ∀ (n_19 : Nat) (x1 : Int32) (x2 : Int32) (x3 : Int32) (x4 : Int32) (σ : Mem) (H : Heap) (locs : List Loc) (ls : Array Slot), va_P D vwCl (WM k ad g (σ)) H → va_D A (WM k ad g (σ)) → va_S A s.heap H locs → lv_has ls 6 [(0, .ref (ad 0)), (1, .int x1), (2, .int x2), (3, .int x3), (4, .int x4)] → lp_5 (q_X8_meet_19 (g 0) (g 2) post (q_X8_meet_114 (g 0) (g 2) post (q_X8_meet_117 (g 0) (g 2) post) (lp_4 (q_X8_meet_2 (g 0) (g 2) post (q_X8_meet_117 (g 0) (g 2) post)) n_2))) n_19 x1 x2 x3 x4 σ → W p l e rm_X8_meet s m args below meth c H locs 0 0 Q (F0 m 19 ls []) := by
        intro n_19
        induction n_19 with
        | zero => intro x1 x2 x3 x4 σ H locs ls hP hD hS hl hp; exact hp.elim
        | succ n_19 ih_19 =>
          have B_108 : ∀ (x1 : Int32) (x2 : Int32) (x3 : Int32) (x4 : Int32) (σ : Mem) (H : Heap) (locs : List Loc) (ls : Array Slot), va_P D vwCl (WM k ad g (σ)) H → va_D A (WM k ad g (σ)) → va_S A s.heap H locs → lv_has ls 6 [(0, .ref (ad 0)), (1, .int x1), (2, .int x2), (3, .int x3), (4, .int x4)] → (q_X8_meet_108 (g 0) (g 2) post (q_X8_meet_114 (g 0) (g 2) post (q_X8_meet_117 (g 0) (g 2) post) (lp_4 (q_X8_meet_2 (g 0) (g 2) post (q_X8_meet_117 (g 0) (g 2) post)) n_2)) (lp_5 (q_X8_meet_19 (g 0) (g 2) post (q_X8_meet_114 (g 0) (g 2) post (q_X8_meet_117 (g 0) (g 2) post) (lp_4 (q_X8_meet_2 (g 0) (g 2) post (q_X8_meet_117 (g 0) (g 2) post)) n_2))) n_19)) x1 x2 x3 x4 σ → W p l e rm_X8_meet s m args below meth c H locs 0 0 Q (F0 m 108 ls []) := by
            intro x1 x2 x3 x4 σ H locs ls hP hD hS hl hp
            unfold q_X8_meet_108 at hp
            obtain ⟨v30001, ev30001⟩ : ∃ z : Int32, z = x4 + 1 := ⟨_, rfl⟩
            have hp := hp v30001 ev30001
            refine lv_iinc (v := v30001) (lv' := [(4, .int v30001), (0, .ref (ad 0)), (1, .int x1), (2, .int x2), (3, .int x3)]) hx hb dX8_meet_108 hl (k := 4) rfl (by rw [ev30001]; rfl) (by decide) rfl (fun ls hl => ?_)
            refine lv_goto (tgt := 19) hx hb dX8_meet_111 (by decide) ?_
            exact ih_19 x1 x2 x3 v30001 (σ) _ _ _  hP hD hS (lv_sub hl [1, 2, 3, 4, 0] rfl) hp
          intro x1 x2 x3 x4 σ H locs ls hP hD hS hl hp
          have hp : q_X8_meet_19 (g 0) (g 2) post (q_X8_meet_114 (g 0) (g 2) post (q_X8_meet_117 (g 0) (g 2) post) (lp_4 (q_X8_meet_2 (g 0) (g 2) post (q_X8_meet_117 (g 0) (g 2) post)) n_2)) (lp_5 (q_X8_meet_19 (g 0) (g 2) post (q_X8_meet_114 (g 0) (g 2) post (q_X8_meet_117 (g 0) (g 2) post) (lp_4 (q_X8_meet_2 (g 0) (g 2) post (q_X8_meet_117 (g 0) (g 2) post)) n_2))) n_19) x1 x2 x3 x4 σ := hp
          unfold q_X8_meet_19 at hp
          refine lv_iload hx hb dX8_meet_19 (lv_at hl 4 rfl) ?_
          refine lv_aload_n hx hb dX8_meet_21 rfl (lv_at hl 0 rfl) ?_
          refine va_get (D := D) (ci := 12) (C := RX8) (T := TX8) (N := 15) hx hb hts hin_X8 hown hK hP 0 rfl rfl 4 (by decide) hf_19 (fun _ h9 => h9) rfl dX8_meet_22 ?_
          refine wm_size_line (rest := [.int x4]) hC (gA_V (a := Cond.code yX8_meet cX8_meet 6 (some .boolean)) A_605 A_606 A_607 A_583 A_602) hl.1 rfl (Nat.le_of_ble_eq_true rfl) (Nat.le_of_ble_eq_true rfl) (Nat.le_of_ble_eq_true rfl) dX8_meet_25 ⟨Nat.le_of_ble_eq_true rfl, Nat.le_of_ble_eq_true rfl⟩ hP hD hS (fun H locs hP hD hS => ?_)
          refine lv_icmp_ge (tgt := 114) hx hb dX8_meet_28 (by decide) (fun c20001 => ?_) (fun c20001 => ?_)
          · have hp := hp.1 c20001
            exact B_114 x1 x2 x3 (σ) _ _ _  hP hD hS (lv_sub hl [0, 1, 2, 3] rfl) hp
          · have hp := hp.2 c20001
            refine lv_iload_n hx hb dX8_meet_31 rfl (lv_at hl 2 rfl) ?_
            refine lv_iload hx hb dX8_meet_32 (lv_at hl 4 rfl) ?_
            refine lv_ishr hx hb dX8_meet_34 ?_
            refine lv_iconst (v := 1) hx hb dX8_meet_35 (by decide) ?_
            refine lv_iand hx hb dX8_meet_36 ?_
            refine lv_if_ne (tgt := 43) hx hb dX8_meet_37 (by decide) (fun c20002 => ?_) (fun c20002 => ?_)
            · have hp := hp.1 c20002
              refine lv_aload_n hx hb dX8_meet_43 rfl (lv_at hl 0 rfl) ?_
              refine va_get (D := D) (ci := 12) (C := RX8) (T := TX8) (N := 15) hx hb hts hin_X8 hown hK hP 0 rfl rfl 4 (by decide) hf_19 (fun _ h9 => h9) rfl dX8_meet_44 ?_
              refine lv_iload hx hb dX8_meet_47 (lv_at hl 4 rfl) ?_
              obtain ⟨j20003, ⟨hj20003, ej20003⟩, hp⟩ := hp
              refine wm_get_line (rest := []) hC hg hj20003 ej20003 (gA_V (a := Cond.code yX8_meet cX8_meet 6 (some .boolean)) A_621 A_622 A_623 A_583 A_613) hl.1 rfl (Nat.le_of_ble_eq_true rfl) (Nat.le_of_ble_eq_true rfl) (Nat.le_of_ble_eq_true rfl) dX8_meet_49 ⟨Nat.le_of_ble_eq_true rfl, Nat.le_of_ble_eq_true rfl⟩ hP hD hS (fun H locs hP hD hS => ?_)
              refine va_castS hx hb hown (hts _ (List.mem_cons_of_mem _ A_662)) (hK.1 11 _ rfl).2 (va_recv hK hP (ci := 11) (q0 := lnP g j20003) rfl (WM_ln k ad g (σ) hj20003)) dX8_meet_52 ?_
              refine lv_astore (lv' := [(5, .ref (ad (100 + j20003))), (0, .ref (ad 0)), (1, .int x1), (2, .int x2), (3, .int x3), (4, .int x4)]) hx hb dX8_meet_55 hl (by decide) rfl (fun ls hl => ?_)
              refine lv_aload hx hb dX8_meet_57 (lv_at hl 0 rfl) ?_
              refine va_getN (D := D) (ci := 11) (C := RX7) (T := TX7) (N := 7) hx hb hts hin_X7 hown hK hP (lnP g j20003) (WM_ln k ad g (σ) hj20003) rfl 0 (by decide) (va_Nw.use rfl (GG.nf hG (q := (RX8, 79, "MeetjoinModel$Line", "kind", "I", "MeetjoinModel")) 6 rfl)) (fun _ h9 => h9) rfl dX8_meet_59 ?_
              refine lv_iconst (v := 5) hx hb dX8_meet_62 (by decide) ?_
              refine lv_icmp_ne (tgt := 69) hx hb dX8_meet_63 (by decide) (fun c20004 => ?_) (fun c20004 => ?_)
              · have hp := hp.1 c20004
                refine lv_iload_n hx hb dX8_meet_69 rfl (lv_at hl 4 rfl) ?_
                refine lv_aload_n hx hb dX8_meet_70 rfl (lv_at hl 1 rfl) ?_
                refine lv_iload_n hx hb dX8_meet_71 rfl (lv_at hl 2 rfl) ?_
                refine lv_aload hx hb dX8_meet_72 (lv_at hl 0 rfl) ?_
                refine lv_aload hx hb dX8_meet_74 (lv_at hl 0 rfl) ?_
                refine va_getN (D := D) (ci := 11) (C := RX7) (T := TX7) (N := 7) hx hb hts hin_X7 hown hK hP (lnP g j20003) (WM_ln k ad g (σ) hj20003) rfl 2 (by decide) (va_Nw.use rfl (GG.nf hG (q := (RX8, 65, "MeetjoinModel$Line", "field", "I", "MeetjoinModel")) 4 rfl)) (fun _ h9 => h9) rfl dX8_meet_76 ?_
                refine fw_ciV (As := [.int x1, .ref (ad (100 + j20003)), .int ((σ) (100 + j20003) 2)]) (rest := [.int x3]) hC (c_X8_takes l D k ad g hg hj20003 hp) (cwV 3 hts (gA_V A_714 A_715 A_716 A_601 A_706) rfl rfl rfl (by decide +kernel) ⟨Nat.le_of_ble_eq_true rfl, Nat.le_of_ble_eq_true rfl⟩) (va_recv hK hP (ci := 12) (q0 := 0) rfl rfl) rfl hl.1 rfl (Nat.le_of_ble_eq_true rfl) dX8_meet_79 ⟨Nat.le_of_ble_eq_true rfl, Nat.le_of_ble_eq_true rfl⟩ hP hD hS Jn.same (fun r20005 σ20006 H locs hP hD hS hp => ?_)
                have hP : va_P D vwCl (WM k ad g (σ20006)) H := hP
                have hD : va_D A (WM k ad g (σ20006)) := hD
                refine lv_ior hx hb dX8_meet_82 ?_
                refine lv_topi (fun v20007 ev20007 => ?_)
                have hp := hp v20007 ev20007
                refine lv_istore_n (lv' := [(3, .int v20007), (5, .ref (ad (100 + j20003))), (0, .ref (ad 0)), (1, .int x1), (2, .int x2), (4, .int x4)]) hx hb dX8_meet_83 rfl hl (by decide) rfl (fun ls hl => ?_)
                refine lv_aload hx hb dX8_meet_84 (lv_at hl 1 rfl) ?_
                refine va_getN (D := D) (ci := 11) (C := RX7) (T := TX7) (N := 7) hx hb hts hin_X7 hown hK hP (lnP g j20003) (WM_ln k ad g (σ20006) hj20003) rfl 0 (by decide) (va_Nw.use rfl (GG.nf hG (q := (RX8, 79, "MeetjoinModel$Line", "kind", "I", "MeetjoinModel")) 6 rfl)) (fun _ h9 => h9) rfl dX8_meet_86 ?_
                refine lv_iconst (v := 2) hx hb dX8_meet_89 (by decide) ?_
                refine lv_icmp_le (tgt := 108) hx hb dX8_meet_90 (by decide) (fun c20008 => ?_) (fun c20008 => ?_)
                · have hp := hp.1 c20008
                  exact B_108 x1 x2 v20007 x4 (σ20006) _ _ _  hP hD hS (lv_sub hl [2, 3, 4, 0, 5] rfl) hp
                · have hp := hp.2 c20008
                  refine lv_iload_n hx hb dX8_meet_93 rfl (lv_at hl 0 rfl) ?_
                  refine lv_aload_n hx hb dX8_meet_94 rfl (lv_at hl 2 rfl) ?_
                  refine lv_iload_n hx hb dX8_meet_95 rfl (lv_at hl 3 rfl) ?_
                  refine lv_aload hx hb dX8_meet_96 (lv_at hl 1 rfl) ?_
                  refine lv_aload hx hb dX8_meet_98 (lv_at hl 1 rfl) ?_
                  refine va_getN (D := D) (ci := 11) (C := RX7) (T := TX7) (N := 7) hx hb hts hin_X7 hown hK hP (lnP g j20003) (WM_ln k ad g (σ20006) hj20003) rfl 3 (by decide) (va_Nw.use rfl (GG.nf hG (q := (RX8, 91, "MeetjoinModel$Line", "what", "I", "MeetjoinModel")) 7 rfl)) (fun _ h9 => h9) rfl dX8_meet_100 ?_
                  refine fw_ciV (As := [.int x1, .ref (ad (100 + j20003)), .int ((σ20006) (100 + j20003) 3)]) (rest := [.int v20007]) hC (c_X8_takes l D k ad g hg hj20003 hp) (cwV 3 hts (gA_V A_714 A_715 A_716 A_601 A_706) rfl rfl rfl (by decide +kernel) ⟨Nat.le_of_ble_eq_true rfl, Nat.le_of_ble_eq_true rfl⟩) (va_recv hK hP (ci := 12) (q0 := 0) rfl rfl) rfl hl.1 rfl (Nat.le_of_ble_eq_true rfl) dX8_meet_103 ⟨Nat.le_of_ble_eq_true rfl, Nat.le_of_ble_eq_true rfl⟩ hP hD hS Jn.same (fun r20009 σ20010 H locs hP hD hS hp => ?_)
                  have hP : va_P D vwCl (WM k ad g (σ20010)) H := hP
                  have hD : va_D A (WM k ad g (σ20010)) := hD
                  refine lv_ior hx hb dX8_meet_106 ?_
                  refine lv_topi (fun v20011 ev20011 => ?_)
                  have hp := hp v20011 ev20011
                  refine lv_istore_n (lv' := [(3, .int v20011), (5, .ref (ad (100 + j20003))), (0, .ref (ad 0)), (1, .int x1), (2, .int x2), (4, .int x4)]) hx hb dX8_meet_107 rfl hl (by decide) rfl (fun ls hl => ?_)
                  exact B_108 x1 x2 v20011 x4 (σ20010) _ _ _  hP hD hS (lv_sub hl [2, 3, 4, 0, 5] rfl) hp
              · have hp := hp.2 c20004
                refine lv_goto (tgt := 108) hx hb dX8_meet_66 (by decide) ?_
                exact B_108 x1 x2 x3 x4 (σ) _ _ _  hP hD hS (lv_sub hl [1, 2, 3, 4, 5] rfl) hp
            · have hp := hp.2 c20002
              refine lv_goto (tgt := 108) hx hb dX8_meet_40 (by decide) ?_
              exact B_108 x1 x2 x3 x4 (σ) _ _ _  hP hD hS (lv_sub hl [0, 1, 2, 3, 4] rfl) hp
      intro x1 x2 x3 σ H locs ls hP hD hS hl hp
      have hp : q_X8_meet_2 (g 0) (g 2) post (q_X8_meet_117 (g 0) (g 2) post) (lp_4 (q_X8_meet_2 (g 0) (g 2) post (q_X8_meet_117 (g 0) (g 2) post)) n_2) x1 x2 x3 σ := hp
      unfold q_X8_meet_2 at hp
      refine lv_iload_n hx hb dX8_meet_2 rfl (lv_at hl 3 rfl) ?_
      refine lv_if_eq (tgt := 117) hx hb dX8_meet_3 (by decide) (fun c10001 => ?_) (fun c10001 => ?_)
      · have hp := hp.1 c10001
        exact B_117 x1 (σ) _ _ _  hP hD hS (lv_sub hl [0, 1] rfl) hp
      · have hp := hp.2 c10001
        refine lv_aload_n hx hb dX8_meet_6 rfl (lv_at hl 0 rfl) ?_
        refine lv_iload_n hx hb dX8_meet_7 rfl (lv_at hl 1 rfl) ?_
        refine fw_ciV (As := [.int x1]) (rest := []) hC (c_X8_isEmpty l D k ad g hg hp) (cwV 1 hts (gA_V A_711 A_712 A_713 A_601 A_710) rfl rfl rfl (by decide +kernel) ⟨Nat.le_of_ble_eq_true rfl, Nat.le_of_ble_eq_true rfl⟩) (va_recv hK hP (ci := 12) (q0 := 0) rfl rfl) rfl hl.1 rfl (Nat.le_of_ble_eq_true rfl) dX8_meet_8 ⟨Nat.le_of_ble_eq_true rfl, Nat.le_of_ble_eq_true rfl⟩ hP hD hS Jn.same (fun r10002 σ10003 H locs hP hD hS hp => ?_)
        have hP : va_P D vwCl (WM k ad g (σ10003)) H := hP
        have hD : va_D A (WM k ad g (σ10003)) := hD
        refine lv_if_ne (tgt := 117) hx hb dX8_meet_11 (by decide) (fun c10004 => ?_) (fun c10004 => ?_)
        · have hp := hp.1 c10004
          exact B_117 x1 (σ10003) _ _ _  hP hD hS (lv_sub hl [0, 1] rfl) hp
        · have hp := hp.2 c10004
          refine lv_iconst (v := 0) hx hb dX8_meet_14 (by decide) ?_
          refine lv_istore_n (lv' := [(3, .int 0), (0, .ref (ad 0)), (1, .int x1), (2, .int x2)]) hx hb dX8_meet_15 rfl hl (by decide) rfl (fun ls hl => ?_)
          refine lv_iconst (v := 0) hx hb dX8_meet_16 (by decide) ?_
          refine lv_istore (lv' := [(4, .int 0), (3, .int 0), (0, .ref (ad 0)), (1, .int x1), (2, .int x2)]) hx hb dX8_meet_17 hl (by decide) rfl (fun ls hl => ?_)
          obtain ⟨n9, hp⟩ := hp
          exact B_19 n9 x1 x2 0 0 (σ10003) _ _ _  hP hD hS (lv_sub hl [2, 3, 4, 1, 0] rfl) hp
  refine lv_iconst (v := 1) hx hb dX8_meet_0 (by decide) ?_
  refine lv_istore_n (lv' := [(3, .int 1), (0, .ref (ad 0)), (1, .int p1), (2, .int p2)]) hx hb dX8_meet_1 rfl hl (by decide) rfl (fun ls hl => ?_)
  obtain ⟨n9, hp⟩ := hp
  exact B_2 n9 p1 p2 1 (σ) _ _ _  hP hD hS (lv_sub hl [1, 2, 3, 0] rfl) hp
def q_X8_meetAnew (n : Nat) (c : Nat) (post : Int32 → Mem → Prop) (p1 : Int32) (p2 : Int32) (σ : Mem) : Prop := (q_X8_begin n c (fun (σ2 : Mem) => (q_X8_meet n c (fun (r3 : Int32) (σ4 : Mem) => (bz r3 ∧ post r3 (σ4))) p1 p2 (σ2))) p1 (σ))
abbrev rm_X8_meetAnew : Room := { frames := 5, cells := 0, slots := 0, locals := 285 }
abbrev wq_X8_meetAnew : List Cond := Cond.code yX8_meetAnew cX8_meetAnew 3 (some .boolean) :: wALL
set_option maxHeartbeats 4000000 in
set_option maxRecDepth 100000 in
theorem c_X8_meetAnew (l : Launch) (D : va_G) (k ad g : Nat → Nat) (hg : gok g) {sz : Nat} {σ : Mem} {p1 : Int32} {p2 : Int32} {post : Int32 → Mem → Prop} (hp : q_X8_meetAnew (g 0) (g 2) post p1 p2 σ) : Met l yX8_meetAnew wq_X8_meetAnew rm_X8_meetAnew (va_Pc [.ref (ad 0), .int p1, .int p2] (Pw D k (WM k ad g (σ)) sz)) (va_Qi post (fun u => Bw D (WM k ad g (σ)) sz (WM k ad g u)) (va_A (WM k ad g (σ)) sz)) 0 0 (va_A (WM k ad g (σ)) sz) := by
  refine fw_i (wf := fun u : Mem => WM k ad g u) (by decide) rfl (Nat.le_of_ble_eq_true rfl) ?_
  intro p e s m args below meth c A Q ls hC hP hD hl hret
  obtain ⟨⟨hx, hb, hml, hown, hts⟩, hG, hA⟩ := id hC
  have hK := hG.1
  have hS : va_S A s.heap s.heap [] := va_S.rf
  have hl : lv_has ls 3 [(0, .ref (ad 0)), (1, .int p1), (2, .int p2)] := hl
  have hown : s.vm.findClass RX8 = some m.cls := hown
  unfold q_X8_meetAnew at hp
  refine lv_aload_n hx hb dX8_meetAnew_0 rfl (lv_at hl 0 rfl) ?_
  refine lv_iload_n hx hb dX8_meetAnew_1 rfl (lv_at hl 1 rfl) ?_
  refine fw_cvV (As := [.int p1]) (rest := []) hC (c_X8_begin l D k ad g hg hp) (cwV 1 hts (gA_V A_718 A_719 A_720 A_601 A_687) rfl rfl rfl (by decide +kernel) ⟨Nat.le_of_ble_eq_true rfl, Nat.le_of_ble_eq_true rfl⟩) (va_recv hK hP (ci := 12) (q0 := 0) rfl rfl) rfl hl.1 rfl (Nat.le_of_ble_eq_true rfl) dX8_meetAnew_2 ⟨Nat.le_of_ble_eq_true rfl, Nat.le_of_ble_eq_true rfl⟩ hP hD hS Jn.same (fun σ2 H locs hP hD hS hp => ?_)
  have hP : va_P D vwCl (WM k ad g (σ2)) H := hP
  have hD : va_D A (WM k ad g (σ2)) := hD
  refine lv_aload_n hx hb dX8_meetAnew_5 rfl (lv_at hl 0 rfl) ?_
  refine lv_iload_n hx hb dX8_meetAnew_6 rfl (lv_at hl 1 rfl) ?_
  refine lv_iload_n hx hb dX8_meetAnew_7 rfl (lv_at hl 2 rfl) ?_
  refine fw_ciV (As := [.int p1, .int p2]) (rest := []) hC (c_X8_meet l D k ad g hg hp) (cwV 2 hts (gA_V A_721 A_722 A_723 A_601 A_717) rfl rfl rfl (by decide +kernel) ⟨Nat.le_of_ble_eq_true rfl, Nat.le_of_ble_eq_true rfl⟩) (va_recv hK hP (ci := 12) (q0 := 0) rfl rfl) rfl hl.1 rfl (Nat.le_of_ble_eq_true rfl) dX8_meetAnew_8 ⟨Nat.le_of_ble_eq_true rfl, Nat.le_of_ble_eq_true rfl⟩ hP hD hS Jn.same (fun r3 σ4 H locs hP hD hS hp => ?_)
  have hP : va_P D vwCl (WM k ad g (σ4)) H := hP
  have hD : va_D A (WM k ad g (σ4)) := hD
  exact hret r3 (σ4) _ _ _ _ _ _ dX8_meetAnew_11 hp.1.1 hP hD hS (Nat.le_of_ble_eq_true rfl) (Nat.le_of_ble_eq_true rfl) hp.2
def q_X8_only (n : Nat) (c : Nat) (post : Mem → Prop) (p1 : Int32) (p2 : Int32) (p3 : Int32) (σ : Mem) : Prop := (∀ v1 : Int32, v1 = ((p1 * 5) + p2) → (vp_in v1 35 ∧ (vp_in v1 35 ∧ (∀ σ4 : Mem, σ4 = mst (σ) 7 v1.toNatClampNeg (((σ) 7 v1.toNatClampNeg) &&& ((1 : Int32) <<< (p3 &&& 31))) → post (σ4)))))
abbrev rm_X8_only : Room := { frames := 0, cells := 0, slots := 0, locals := 0 }
abbrev wq_X8_only : List Cond := Cond.code yX8_only cX8_only 4 none :: wALL
set_option maxHeartbeats 4000000 in
set_option maxRecDepth 100000 in
theorem c_X8_only (l : Launch) (D : va_G) (k ad g : Nat → Nat) (hg : gok g) {sz : Nat} {σ : Mem} {p1 : Int32} {p2 : Int32} {p3 : Int32} {post : Mem → Prop} (hp : q_X8_only (g 0) (g 2) post p1 p2 p3 σ) : Met l yX8_only wq_X8_only rm_X8_only (va_Pc [.ref (ad 0), .int p1, .int p2, .int p3] (Pw D k (WM k ad g (σ)) sz)) (va_Qv post (fun u => Bw D (WM k ad g (σ)) sz (WM k ad g u)) (va_A (WM k ad g (σ)) sz)) 0 0 (va_A (WM k ad g (σ)) sz) := by
  refine fw_v (wf := fun u : Mem => WM k ad g u) (by decide) rfl (Nat.le_of_ble_eq_true rfl) ?_
  intro p e s m args below meth c A Q ls hC hP hD hl hmn hret
  obtain ⟨⟨hx, hb, hml, hown, hts⟩, hG, hA⟩ := id hC
  have hK := hG.1
  have hS : va_S A s.heap s.heap [] := va_S.rf
  have hin_X8 : ∀ w ∈ u_ws RX8 TX8 15, w ∈ wq_X8_only := fun w h => List.mem_cons_of_mem _ (iU_X8 w h)
  have hf_32 := hts _ (List.mem_cons_of_mem _ A_588)
  have hl : lv_has ls 4 [(0, .ref (ad 0)), (1, .int p1), (2, .int p2), (3, .int p3)] := hl
  have hown : s.vm.findClass RX8 = some m.cls := hown
  unfold q_X8_only at hp
  refine lv_aload_n hx hb dX8_only_0 rfl (lv_at hl 0 rfl) ?_
  refine va_get (D := D) (ci := 12) (C := RX8) (T := TX8) (N := 15) hx hb hts hin_X8 hown hK hP 0 rfl rfl 9 (by decide) hf_32 (fun _ h9 => h9) rfl dX8_only_1 ?_
  refine lv_iload_n hx hb dX8_only_4 rfl (lv_at hl 1 rfl) ?_
  refine lv_iconst (v := 5) hx hb dX8_only_5 (by decide) ?_
  refine lv_imul hx hb dX8_only_6 ?_
  refine lv_iload_n hx hb dX8_only_7 rfl (lv_at hl 2 rfl) ?_
  refine lv_iadd hx hb dX8_only_8 ?_
  refine lv_topi (fun v1 ev1 => ?_)
  have hp := hp v1 ev1
  refine lv_dup2_11 hx hb dX8_only_9 rfl rfl ?_
  obtain ⟨h2, hp⟩ := hp
  refine va_iald hx hb hK hP 7 0 rfl rfl h2 dX8_only_10 ?_
  refine lv_iconst (v := 1) hx hb dX8_only_11 (by decide) ?_
  refine lv_iload_n hx hb dX8_only_12 rfl (lv_at hl 3 rfl) ?_
  refine lv_ishl hx hb dX8_only_13 ?_
  refine lv_iand hx hb dX8_only_14 ?_
  obtain ⟨h3, hp⟩ := hp
  refine va_iast hx hb hK hP hD hS 7 0 rfl rfl h3 dX8_only_15 (fun H locs hP hD hS => ?_)
  obtain ⟨σ4, eσ4⟩ : ∃ z : Mem, z = mst (σ) 7 v1.toNatClampNeg (((σ) 7 v1.toNatClampNeg) &&& ((1 : Int32) <<< (p3 &&& 31))) := ⟨_, rfl⟩
  have hp := hp σ4 eσ4
  have hP : va_P D vwCl (WM k ad g (σ4)) H := by rw [eσ4, WM_s (by decide)]; exact hP
  have hD : va_D A (WM k ad g (σ4)) := by rw [eσ4, WM_s (by decide)]; exact hD
  exact hret (σ4) _ _ _ _ _ _ dX8_only_16 hP hD hS (Nat.le_of_ble_eq_true rfl) (Nat.le_of_ble_eq_true rfl) hp
def q_X8_isBehind_101 (n : Nat) (c : Nat) (post : Int32 → Mem → Prop)  (s0 : Int32) (σ : Mem) : Prop := (bz s0 ∧ post s0 (σ))
def q_X8_isBehind_90 (n : Nat) (c : Nat) (post : Int32 → Mem → Prop)  (s0 : Int32) (σ : Mem) : Prop := (bz s0 ∧ post s0 (σ))
def q_X8_isBehind_89 (n : Nat) (c : Nat) (post : Int32 → Mem → Prop)  (σ : Mem) : Prop := (q_X8_isBehind_90 n c post) 0 (σ)
def q_X8_isBehind_85 (n : Nat) (c : Nat) (post : Int32 → Mem → Prop)  (σ : Mem) : Prop := (q_X8_isBehind_90 n c post) 1 (σ)
def q_X8_isBehind_49 (n : Nat) (c : Nat) (post : Int32 → Mem → Prop)  (x3 : Nat) (x4 : Nat) (σ : Mem) : Prop := ((((σ) (100 + x3) 4) < ((σ) (100 + x4) 4) → (q_X8_isBehind_85 n c post) (σ)) ∧ (¬ (((σ) (100 + x3) 4) < ((σ) (100 + x4) 4)) → ((((σ) (100 + x3) 4) ≠ ((σ) (100 + x4) 4) → (q_X8_isBehind_89 n c post) (σ)) ∧ (((σ) (100 + x3) 4) = ((σ) (100 + x4) 4) → ((((σ) (100 + x3) 3) ≤ ((σ) (100 + x4) 3) → (q_X8_isBehind_89 n c post) (σ)) ∧ (¬ (((σ) (100 + x3) 3) ≤ ((σ) (100 + x4) 3)) → (q_X8_isBehind_85 n c post) (σ)))))))
def q_X8_isBehind (n : Nat) (c : Nat) (post : Int32 → Mem → Prop) (p1 : Int32) (p2 : Int32) (σ : Mem) : Prop := (∃ j1 : Nat, (j1 < n ∧ p1 = nI j1) ∧ (∃ j2 : Nat, (j2 < n ∧ p2 = nI j2) ∧ ((((σ) (100 + j1) 4) ≠ ((σ) (100 + j2) 4) → (q_X8_isBehind_49 n c post) j1 j2 (σ)) ∧ (((σ) (100 + j1) 4) = ((σ) (100 + j2) 4) → ((((σ) (100 + j1) 3) = ((σ) (100 + j2) 3) → ((p1 ≤ p2 → (q_X8_isBehind_101 n c post) 0 (σ)) ∧ (¬ (p1 ≤ p2) → (q_X8_isBehind_101 n c post) 1 (σ)))) ∧ (¬ (((σ) (100 + j1) 3) = ((σ) (100 + j2) 3)) → (q_X8_isBehind_49 n c post) j1 j2 (σ)))))))
abbrev rm_X8_isBehind : Room := { frames := 4, cells := 0, slots := 0, locals := 260 }
abbrev wq_X8_isBehind : List Cond := Cond.code yX8_isBehind cX8_isBehind 5 (some .boolean) :: wALL
set_option maxHeartbeats 4000000 in
set_option maxRecDepth 100000 in
theorem c_X8_isBehind (l : Launch) (D : va_G) (k ad g : Nat → Nat) (hg : gok g) {sz : Nat} {σ : Mem} {p1 : Int32} {p2 : Int32} {post : Int32 → Mem → Prop} (hp : q_X8_isBehind (g 0) (g 2) post p1 p2 σ) : Met l yX8_isBehind wq_X8_isBehind rm_X8_isBehind (va_Pc [.ref (ad 0), .int p1, .int p2] (Pw D k (WM k ad g (σ)) sz)) (va_Qi post (fun u => Bw D (WM k ad g (σ)) sz (WM k ad g u)) (va_A (WM k ad g (σ)) sz)) 0 0 (va_A (WM k ad g (σ)) sz) := by
  refine fw_i (wf := fun u : Mem => WM k ad g u) (by decide) rfl (Nat.le_of_ble_eq_true rfl) ?_
  intro p e s m args below meth c A Q ls hC hP hD hl hret
  obtain ⟨⟨hx, hb, hml, hown, hts⟩, hG, hA⟩ := id hC
  have hK := hG.1
  have hS : va_S A s.heap s.heap [] := va_S.rf
  have hin_X8 : ∀ w ∈ u_ws RX8 TX8 15, w ∈ wq_X8_isBehind := fun w h => List.mem_cons_of_mem _ (iU_X8 w h)
  have hf_19 := hts _ (List.mem_cons_of_mem _ A_584)
  have hin_X7 : ∀ w ∈ u_ws RX7 TX7 7, w ∈ wq_X8_isBehind := fun w h => List.mem_cons_of_mem _ (iU_X7 w h)
  have hl : lv_has ls 5 [(0, .ref (ad 0)), (1, .int p1), (2, .int p2)] := hl
  have hown : s.vm.findClass RX8 = some m.cls := hown
  unfold q_X8_isBehind at hp
  have B_101 : ∀ (s0 : Int32) (σ : Mem) (H : Heap) (locs : List Loc) (ls : Array Slot), va_P D vwCl (WM k ad g (σ)) H → va_D A (WM k ad g (σ)) → va_S A s.heap H locs → lv_has ls 5 [] → (q_X8_isBehind_101 (g 0) (g 2) post) s0 σ → W p l e rm_X8_isBehind s m args below meth c H locs 0 0 Q (F0 m 101 ls [.int s0]) := by
    intro s0 σ H locs ls hP hD hS hl hp
    unfold q_X8_isBehind_101 at hp
    exact hret s0 (σ) _ _ _ _ _ _ dX8_isBehind_101 hp.1.1 hP hD hS (Nat.le_of_ble_eq_true rfl) (Nat.le_of_ble_eq_true rfl) hp.2
  have B_90 : ∀ (s0 : Int32) (σ : Mem) (H : Heap) (locs : List Loc) (ls : Array Slot), va_P D vwCl (WM k ad g (σ)) H → va_D A (WM k ad g (σ)) → va_S A s.heap H locs → lv_has ls 5 [] → (q_X8_isBehind_90 (g 0) (g 2) post) s0 σ → W p l e rm_X8_isBehind s m args below meth c H locs 0 0 Q (F0 m 90 ls [.int s0]) := by
    intro s0 σ H locs ls hP hD hS hl hp
    unfold q_X8_isBehind_90 at hp
    exact hret s0 (σ) _ _ _ _ _ _ dX8_isBehind_90 hp.1.1 hP hD hS (Nat.le_of_ble_eq_true rfl) (Nat.le_of_ble_eq_true rfl) hp.2
  have B_89 : ∀  (σ : Mem) (H : Heap) (locs : List Loc) (ls : Array Slot), va_P D vwCl (WM k ad g (σ)) H → va_D A (WM k ad g (σ)) → va_S A s.heap H locs → lv_has ls 5 [] → (q_X8_isBehind_89 (g 0) (g 2) post)  σ → W p l e rm_X8_isBehind s m args below meth c H locs 0 0 Q (F0 m 89 ls []) := by
    intro  σ H locs ls hP hD hS hl hp
    unfold q_X8_isBehind_89 at hp
    refine lv_iconst (v := 0) hx hb dX8_isBehind_89 (by decide) ?_
    exact B_90 0 (σ) _ _ _  hP hD hS (lv_sub hl [] rfl) hp
  have B_85 : ∀  (σ : Mem) (H : Heap) (locs : List Loc) (ls : Array Slot), va_P D vwCl (WM k ad g (σ)) H → va_D A (WM k ad g (σ)) → va_S A s.heap H locs → lv_has ls 5 [] → (q_X8_isBehind_85 (g 0) (g 2) post)  σ → W p l e rm_X8_isBehind s m args below meth c H locs 0 0 Q (F0 m 85 ls []) := by
    intro  σ H locs ls hP hD hS hl hp
    unfold q_X8_isBehind_85 at hp
    refine lv_iconst (v := 1) hx hb dX8_isBehind_85 (by decide) ?_
    refine lv_goto (tgt := 90) hx hb dX8_isBehind_86 (by decide) ?_
    exact B_90 1 (σ) _ _ _  hP hD hS (lv_sub hl [] rfl) hp
  have B_49 : ∀ (x3 : Nat) (x4 : Nat) (σ : Mem) (H : Heap) (locs : List Loc) (ls : Array Slot), x3 < g 0 → x4 < g 0 → va_P D vwCl (WM k ad g (σ)) H → va_D A (WM k ad g (σ)) → va_S A s.heap H locs → lv_has ls 5 [(3, .ref (ad (100 + x3))), (4, .ref (ad (100 + x4)))] → (q_X8_isBehind_49 (g 0) (g 2) post) x3 x4 σ → W p l e rm_X8_isBehind s m args below meth c H locs 0 0 Q (F0 m 49 ls []) := by
    intro x3 x4 σ H locs ls hx3 hx4 hP hD hS hl hp
    unfold q_X8_isBehind_49 at hp
    refine lv_aload_n hx hb dX8_isBehind_49 rfl (lv_at hl 0 rfl) ?_
    refine va_getN (D := D) (ci := 11) (C := RX7) (T := TX7) (N := 7) hx hb hts hin_X7 hown hK hP (lnP g x3) (WM_ln k ad g (σ) hx3) rfl 4 (by decide) (va_Nw.use rfl (GG.nf hG (q := (RX8, 94, "MeetjoinModel$Line", "by", "I", "MeetjoinModel")) 8 rfl)) (fun _ h9 => h9) rfl dX8_isBehind_50 ?_
    refine lv_aload hx hb dX8_isBehind_53 (lv_at hl 1 rfl) ?_
    refine va_getN (D := D) (ci := 11) (C := RX7) (T := TX7) (N := 7) hx hb hts hin_X7 hown hK hP (lnP g x4) (WM_ln k ad g (σ) hx4) rfl 4 (by decide) (va_Nw.use rfl (GG.nf hG (q := (RX8, 94, "MeetjoinModel$Line", "by", "I", "MeetjoinModel")) 8 rfl)) (fun _ h9 => h9) rfl dX8_isBehind_55 ?_
    refine lv_icmp_lt (tgt := 85) hx hb dX8_isBehind_58 (by decide) (fun c10001 => ?_) (fun c10001 => ?_)
    · have hp := hp.1 c10001
      exact B_85  (σ) _ _ _  hP hD hS (lv_sub hl [] rfl) hp
    · have hp := hp.2 c10001
      refine lv_aload_n hx hb dX8_isBehind_61 rfl (lv_at hl 0 rfl) ?_
      refine va_getN (D := D) (ci := 11) (C := RX7) (T := TX7) (N := 7) hx hb hts hin_X7 hown hK hP (lnP g x3) (WM_ln k ad g (σ) hx3) rfl 4 (by decide) (va_Nw.use rfl (GG.nf hG (q := (RX8, 94, "MeetjoinModel$Line", "by", "I", "MeetjoinModel")) 8 rfl)) (fun _ h9 => h9) rfl dX8_isBehind_62 ?_
      refine lv_aload hx hb dX8_isBehind_65 (lv_at hl 1 rfl) ?_
      refine va_getN (D := D) (ci := 11) (C := RX7) (T := TX7) (N := 7) hx hb hts hin_X7 hown hK hP (lnP g x4) (WM_ln k ad g (σ) hx4) rfl 4 (by decide) (va_Nw.use rfl (GG.nf hG (q := (RX8, 94, "MeetjoinModel$Line", "by", "I", "MeetjoinModel")) 8 rfl)) (fun _ h9 => h9) rfl dX8_isBehind_67 ?_
      refine lv_icmp_ne (tgt := 89) hx hb dX8_isBehind_70 (by decide) (fun c10002 => ?_) (fun c10002 => ?_)
      · have hp := hp.1 c10002
        exact B_89  (σ) _ _ _  hP hD hS (lv_sub hl [] rfl) hp
      · have hp := hp.2 c10002
        refine lv_aload_n hx hb dX8_isBehind_73 rfl (lv_at hl 0 rfl) ?_
        refine va_getN (D := D) (ci := 11) (C := RX7) (T := TX7) (N := 7) hx hb hts hin_X7 hown hK hP (lnP g x3) (WM_ln k ad g (σ) hx3) rfl 3 (by decide) (va_Nw.use rfl (GG.nf hG (q := (RX8, 91, "MeetjoinModel$Line", "what", "I", "MeetjoinModel")) 7 rfl)) (fun _ h9 => h9) rfl dX8_isBehind_74 ?_
        refine lv_aload hx hb dX8_isBehind_77 (lv_at hl 1 rfl) ?_
        refine va_getN (D := D) (ci := 11) (C := RX7) (T := TX7) (N := 7) hx hb hts hin_X7 hown hK hP (lnP g x4) (WM_ln k ad g (σ) hx4) rfl 3 (by decide) (va_Nw.use rfl (GG.nf hG (q := (RX8, 91, "MeetjoinModel$Line", "what", "I", "MeetjoinModel")) 7 rfl)) (fun _ h9 => h9) rfl dX8_isBehind_79 ?_
        refine lv_icmp_le (tgt := 89) hx hb dX8_isBehind_82 (by decide) (fun c10003 => ?_) (fun c10003 => ?_)
        · have hp := hp.1 c10003
          exact B_89  (σ) _ _ _  hP hD hS (lv_sub hl [] rfl) hp
        · have hp := hp.2 c10003
          exact B_85  (σ) _ _ _  hP hD hS (lv_sub hl [] rfl) hp
  refine lv_aload_n hx hb dX8_isBehind_0 rfl (lv_at hl 0 rfl) ?_
  refine va_get (D := D) (ci := 12) (C := RX8) (T := TX8) (N := 15) hx hb hts hin_X8 hown hK hP 0 rfl rfl 4 (by decide) hf_19 (fun _ h9 => h9) rfl dX8_isBehind_1 ?_
  refine lv_iload_n hx hb dX8_isBehind_4 rfl (lv_at hl 1 rfl) ?_
  obtain ⟨j1, ⟨hj1, ej1⟩, hp⟩ := hp
  refine wm_get_line (rest := []) hC hg hj1 ej1 (gA_V (a := Cond.code yX8_isBehind cX8_isBehind 5 (some .boolean)) A_621 A_622 A_623 A_583 A_613) hl.1 rfl (Nat.le_of_ble_eq_true rfl) (Nat.le_of_ble_eq_true rfl) (Nat.le_of_ble_eq_true rfl) dX8_isBehind_5 ⟨Nat.le_of_ble_eq_true rfl, Nat.le_of_ble_eq_true rfl⟩ hP hD hS (fun H locs hP hD hS => ?_)
  refine va_castS hx hb hown (hts _ (List.mem_cons_of_mem _ A_662)) (hK.1 11 _ rfl).2 (va_recv hK hP (ci := 11) (q0 := lnP g j1) rfl (WM_ln k ad g (σ) hj1)) dX8_isBehind_8 ?_
  refine lv_astore_n (lv' := [(3, .ref (ad (100 + j1))), (0, .ref (ad 0)), (1, .int p1), (2, .int p2)]) hx hb dX8_isBehind_11 rfl hl (by decide) rfl (fun ls hl => ?_)
  refine lv_aload_n hx hb dX8_isBehind_12 rfl (lv_at hl 1 rfl) ?_
  refine va_get (D := D) (ci := 12) (C := RX8) (T := TX8) (N := 15) hx hb hts hin_X8 hown hK hP 0 rfl rfl 4 (by decide) hf_19 (fun _ h9 => h9) rfl dX8_isBehind_13 ?_
  refine lv_iload_n hx hb dX8_isBehind_16 rfl (lv_at hl 3 rfl) ?_
  obtain ⟨j2, ⟨hj2, ej2⟩, hp⟩ := hp
  refine wm_get_line (rest := []) hC hg hj2 ej2 (gA_V (a := Cond.code yX8_isBehind cX8_isBehind 5 (some .boolean)) A_621 A_622 A_623 A_583 A_613) hl.1 rfl (Nat.le_of_ble_eq_true rfl) (Nat.le_of_ble_eq_true rfl) (Nat.le_of_ble_eq_true rfl) dX8_isBehind_17 ⟨Nat.le_of_ble_eq_true rfl, Nat.le_of_ble_eq_true rfl⟩ hP hD hS (fun H locs hP hD hS => ?_)
  refine va_castS hx hb hown (hts _ (List.mem_cons_of_mem _ A_662)) (hK.1 11 _ rfl).2 (va_recv hK hP (ci := 11) (q0 := lnP g j2) rfl (WM_ln k ad g (σ) hj2)) dX8_isBehind_20 ?_
  refine lv_astore (lv' := [(4, .ref (ad (100 + j2))), (3, .ref (ad (100 + j1))), (0, .ref (ad 0)), (1, .int p1), (2, .int p2)]) hx hb dX8_isBehind_23 hl (by decide) rfl (fun ls hl => ?_)
  refine lv_aload_n hx hb dX8_isBehind_25 rfl (lv_at hl 1 rfl) ?_
  refine va_getN (D := D) (ci := 11) (C := RX7) (T := TX7) (N := 7) hx hb hts hin_X7 hown hK hP (lnP g j1) (WM_ln k ad g (σ) hj1) rfl 4 (by decide) (va_Nw.use rfl (GG.nf hG (q := (RX8, 94, "MeetjoinModel$Line", "by", "I", "MeetjoinModel")) 8 rfl)) (fun _ h9 => h9) rfl dX8_isBehind_26 ?_
  refine lv_aload hx hb dX8_isBehind_29 (lv_at hl 0 rfl) ?_
  refine va_getN (D := D) (ci := 11) (C := RX7) (T := TX7) (N := 7) hx hb hts hin_X7 hown hK hP (lnP g j2) (WM_ln k ad g (σ) hj2) rfl 4 (by decide) (va_Nw.use rfl (GG.nf hG (q := (RX8, 94, "MeetjoinModel$Line", "by", "I", "MeetjoinModel")) 8 rfl)) (fun _ h9 => h9) rfl dX8_isBehind_31 ?_
  refine lv_icmp_ne (tgt := 49) hx hb dX8_isBehind_34 (by decide) (fun c3 => ?_) (fun c3 => ?_)
  · have hp := hp.1 c3
    exact B_49 j1 j2 (σ) _ _ _ hj1 hj2 hP hD hS (lv_sub hl [1, 0] rfl) hp
  · have hp := hp.2 c3
    refine lv_aload_n hx hb dX8_isBehind_37 rfl (lv_at hl 1 rfl) ?_
    refine va_getN (D := D) (ci := 11) (C := RX7) (T := TX7) (N := 7) hx hb hts hin_X7 hown hK hP (lnP g j1) (WM_ln k ad g (σ) hj1) rfl 3 (by decide) (va_Nw.use rfl (GG.nf hG (q := (RX8, 91, "MeetjoinModel$Line", "what", "I", "MeetjoinModel")) 7 rfl)) (fun _ h9 => h9) rfl dX8_isBehind_38 ?_
    refine lv_aload hx hb dX8_isBehind_41 (lv_at hl 0 rfl) ?_
    refine va_getN (D := D) (ci := 11) (C := RX7) (T := TX7) (N := 7) hx hb hts hin_X7 hown hK hP (lnP g j2) (WM_ln k ad g (σ) hj2) rfl 3 (by decide) (va_Nw.use rfl (GG.nf hG (q := (RX8, 91, "MeetjoinModel$Line", "what", "I", "MeetjoinModel")) 7 rfl)) (fun _ h9 => h9) rfl dX8_isBehind_43 ?_
    refine lv_icmp_eq (tgt := 91) hx hb dX8_isBehind_46 (by decide) (fun c4 => ?_) (fun c4 => ?_)
    · have hp := hp.1 c4
      refine lv_iload_n hx hb dX8_isBehind_91 rfl (lv_at hl 3 rfl) ?_
      refine lv_iload_n hx hb dX8_isBehind_92 rfl (lv_at hl 4 rfl) ?_
      refine lv_icmp_le (tgt := 100) hx hb dX8_isBehind_93 (by decide) (fun c5 => ?_) (fun c5 => ?_)
      · have hp := hp.1 c5
        refine lv_iconst (v := 0) hx hb dX8_isBehind_100 (by decide) ?_
        exact B_101 0 (σ) _ _ _  hP hD hS (lv_sub hl [] rfl) hp
      · have hp := hp.2 c5
        refine lv_iconst (v := 1) hx hb dX8_isBehind_96 (by decide) ?_
        refine lv_goto (tgt := 101) hx hb dX8_isBehind_97 (by decide) ?_
        exact B_101 1 (σ) _ _ _  hP hD hS (lv_sub hl [] rfl) hp
    · have hp := hp.2 c4
      exact B_49 j1 j2 (σ) _ _ _ hj1 hj2 hP hD hS (lv_sub hl [1, 0] rfl) hp
def q_X8_nextDefault_100 (n : Nat) (c : Nat) (post : Int32 → Mem → Prop)  (x3 : Int32) (σ : Mem) : Prop := post x3 (σ)
def q_X8_nextDefault_94 (n : Nat) (c : Nat) (post : Int32 → Mem → Prop) (kE_100 : Int32 → Mem → Prop) (kc_5 : Int32 → Int32 → Int32 → Int32 → Mem → Prop) (x1 : Int32) (x2 : Int32) (x3 : Int32) (x4 : Int32) (σ : Mem) : Prop := (∀ v4001 : Int32, v4001 = x4 + 1 → kc_5 x1 x2 x3 v4001 (σ))
def q_X8_nextDefault_91 (n : Nat) (c : Nat) (post : Int32 → Mem → Prop) (kE_100 : Int32 → Mem → Prop) (kc_5 : Int32 → Int32 → Int32 → Int32 → Mem → Prop) (x1 : Int32) (x2 : Int32) (x4 : Int32) (σ : Mem) : Prop := (q_X8_nextDefault_94 n c post kE_100 kc_5) x1 x2 x4 x4 (σ)
def q_X8_nextDefault_76 (n : Nat) (c : Nat) (post : Int32 → Mem → Prop) (kE_100 : Int32 → Mem → Prop) (kc_5 : Int32 → Int32 → Int32 → Int32 → Mem → Prop) (x1 : Int32) (x2 : Int32) (x3 : Int32) (x4 : Int32) (σ : Mem) : Prop := ((x3 = (-1) → (q_X8_nextDefault_91 n c post kE_100 kc_5) x1 x2 x4 (σ)) ∧ (¬ (x3 = (-1)) → (q_X8_isBehind n c (fun (r2002 : Int32) (σ2003 : Mem) => ((r2002 = 0 → (q_X8_nextDefault_94 n c post kE_100 kc_5) x1 x2 x3 x4 (σ2003)) ∧ (¬ (r2002 = 0) → (q_X8_nextDefault_91 n c post kE_100 kc_5) x1 x2 x4 (σ2003)))) x3 x4 (σ))))
def q_X8_nextDefault_5 (n : Nat) (c : Nat) (post : Int32 → Mem → Prop) (kE_100 : Int32 → Mem → Prop) (kc_5 : Int32 → Int32 → Int32 → Int32 → Mem → Prop) (x1 : Int32) (x2 : Int32) (x3 : Int32) (x4 : Int32) (σ : Mem) : Prop := (((nI n) ≤ x4 → kE_100 x3 (σ)) ∧ (¬ ((nI n) ≤ x4) → (∃ j1002 : Nat, (j1002 < n ∧ x4 = nI j1002) ∧ ((((σ) (100 + j1002) 0) ≠ 5 → (q_X8_nextDefault_94 n c post kE_100 kc_5) x1 x2 x3 x4 (σ)) ∧ (((σ) (100 + j1002) 0) = 5 → ((((σ) (100 + j1002) 2) ≠ x1 → (q_X8_nextDefault_94 n c post kE_100 kc_5) x1 x2 x3 x4 (σ)) ∧ (((σ) (100 + j1002) 2) = x1 → (q_X8_counts n c j1002 (fun (r1005 : Int32) (σ1006 : Mem) => ((r1005 = 0 → (q_X8_nextDefault_94 n c post kE_100 kc_5) x1 x2 x3 x4 (σ1006)) ∧ (¬ (r1005 = 0) → ((x2 = (-1) → (q_X8_nextDefault_76 n c post kE_100 kc_5) x1 x2 x3 x4 (σ1006)) ∧ (¬ (x2 = (-1)) → (q_X8_isBehind n c (fun (r1009 : Int32) (σ1010 : Mem) => ((r1009 ≠ 0 → (q_X8_nextDefault_76 n c post kE_100 kc_5) x1 x2 x3 x4 (σ1010)) ∧ (r1009 = 0 → (q_X8_nextDefault_94 n c post kE_100 kc_5) x1 x2 x3 x4 (σ1010)))) x4 x2 (σ1006))))))) (σ)))))))))
def q_X8_nextDefault (n : Nat) (c : Nat) (post : Int32 → Mem → Prop) (p1 : Int32) (p2 : Int32) (σ : Mem) : Prop := (∃ n9 : Nat, lp_5 (q_X8_nextDefault_5 n c post (q_X8_nextDefault_100 n c post)) n9 p1 p2 (-1) 0 (σ))
abbrev rm_X8_nextDefault : Room := { frames := 5, cells := 0, slots := 0, locals := 284 }
abbrev wq_X8_nextDefault : List Cond := Cond.code yX8_nextDefault cX8_nextDefault 6 (some .int) :: wALL
set_option maxHeartbeats 4000000 in
set_option maxRecDepth 100000 in
theorem c_X8_nextDefault (l : Launch) (D : va_G) (k ad g : Nat → Nat) (hg : gok g) {sz : Nat} {σ : Mem} {p1 : Int32} {p2 : Int32} {post : Int32 → Mem → Prop} (hp : q_X8_nextDefault (g 0) (g 2) post p1 p2 σ) : Met l yX8_nextDefault wq_X8_nextDefault rm_X8_nextDefault (va_Pc [.ref (ad 0), .int p1, .int p2] (Pw D k (WM k ad g (σ)) sz)) (va_Qi post (fun u => Bw D (WM k ad g (σ)) sz (WM k ad g u)) (va_A (WM k ad g (σ)) sz)) 0 0 (va_A (WM k ad g (σ)) sz) := by
  refine fw_i (wf := fun u : Mem => WM k ad g u) (by decide) rfl (Nat.le_of_ble_eq_true rfl) ?_
  intro p e s m args below meth c A Q ls hC hP hD hl hret
  obtain ⟨⟨hx, hb, hml, hown, hts⟩, hG, hA⟩ := id hC
  have hK := hG.1
  have hS : va_S A s.heap s.heap [] := va_S.rf
  have hin_X8 : ∀ w ∈ u_ws RX8 TX8 15, w ∈ wq_X8_nextDefault := fun w h => List.mem_cons_of_mem _ (iU_X8 w h)
  have hf_19 := hts _ (List.mem_cons_of_mem _ A_584)
  have hin_X7 : ∀ w ∈ u_ws RX7 TX7 7, w ∈ wq_X8_nextDefault := fun w h => List.mem_cons_of_mem _ (iU_X7 w h)
  have hl : lv_has ls 6 [(0, .ref (ad 0)), (1, .int p1), (2, .int p2)] := hl
  have hown : s.vm.findClass RX8 = some m.cls := hown
  unfold q_X8_nextDefault at hp
  have B_100 : ∀ (x3 : Int32) (σ : Mem) (H : Heap) (locs : List Loc) (ls : Array Slot), va_P D vwCl (WM k ad g (σ)) H → va_D A (WM k ad g (σ)) → va_S A s.heap H locs → lv_has ls 6 [(3, .int x3)] → (q_X8_nextDefault_100 (g 0) (g 2) post) x3 σ → W p l e rm_X8_nextDefault s m args below meth c H locs 0 0 Q (F0 m 100 ls []) := by
    intro x3 σ H locs ls hP hD hS hl hp
    unfold q_X8_nextDefault_100 at hp
    refine lv_iload_n hx hb dX8_nextDefault_100 rfl (lv_at hl 0 rfl) ?_
    exact hret x3 (σ) _ _ _ _ _ _ dX8_nextDefault_101 rfl hP hD hS (Nat.le_of_ble_eq_true rfl) (Nat.le_of_ble_eq_true rfl) hp
  have B_5 : ∀ (n_5 : Nat) (x1 : Int32) (x2 : Int32) (x3 : Int32) (x4 : Int32) (σ : Mem) (H : Heap) (locs : List Loc) (ls : Array Slot), va_P D vwCl (WM k ad g (σ)) H → va_D A (WM k ad g (σ)) → va_S A s.heap H locs → lv_has ls 6 [(0, .ref (ad 0)), (1, .int x1), (2, .int x2), (3, .int x3), (4, .int x4)] → lp_5 (q_X8_nextDefault_5 (g 0) (g 2) post (q_X8_nextDefault_100 (g 0) (g 2) post)) n_5 x1 x2 x3 x4 σ → W p l e rm_X8_nextDefault s m args below meth c H locs 0 0 Q (F0 m 5 ls []) := by
    intro n_5
    induction n_5 with
    | zero => intro x1 x2 x3 x4 σ H locs ls hP hD hS hl hp; exact hp.elim
    | succ n_5 ih_5 =>
      have B_94 : ∀ (x1 : Int32) (x2 : Int32) (x3 : Int32) (x4 : Int32) (σ : Mem) (H : Heap) (locs : List Loc) (ls : Array Slot), va_P D vwCl (WM k ad g (σ)) H → va_D A (WM k ad g (σ)) → va_S A s.heap H locs → lv_has ls 6 [(0, .ref (ad 0)), (1, .int x1), (2, .int x2), (3, .int x3), (4, .int x4)] → (q_X8_nextDefault_94 (g 0) (g 2) post (q_X8_nextDefault_100 (g 0) (g 2) post) (lp_5 (q_X8_nextDefault_5 (g 0) (g 2) post (q_X8_nextDefault_100 (g 0) (g 2) post)) n_5)) x1 x2 x3 x4 σ → W p l e rm_X8_nextDefault s m args below meth c H locs 0 0 Q (F0 m 94 ls []) := by
        intro x1 x2 x3 x4 σ H locs ls hP hD hS hl hp
        unfold q_X8_nextDefault_94 at hp
        obtain ⟨v40001, ev40001⟩ : ∃ z : Int32, z = x4 + 1 := ⟨_, rfl⟩
        have hp := hp v40001 ev40001
        refine lv_iinc (v := v40001) (lv' := [(4, .int v40001), (0, .ref (ad 0)), (1, .int x1), (2, .int x2), (3, .int x3)]) hx hb dX8_nextDefault_94 hl (k := 4) rfl (by rw [ev40001]; rfl) (by decide) rfl (fun ls hl => ?_)
        refine lv_goto (tgt := 5) hx hb dX8_nextDefault_97 (by decide) ?_
        exact ih_5 x1 x2 x3 v40001 (σ) _ _ _  hP hD hS (lv_sub hl [1, 2, 3, 4, 0] rfl) hp
      have B_91 : ∀ (x1 : Int32) (x2 : Int32) (x4 : Int32) (σ : Mem) (H : Heap) (locs : List Loc) (ls : Array Slot), va_P D vwCl (WM k ad g (σ)) H → va_D A (WM k ad g (σ)) → va_S A s.heap H locs → lv_has ls 6 [(0, .ref (ad 0)), (1, .int x1), (2, .int x2), (4, .int x4)] → (q_X8_nextDefault_91 (g 0) (g 2) post (q_X8_nextDefault_100 (g 0) (g 2) post) (lp_5 (q_X8_nextDefault_5 (g 0) (g 2) post (q_X8_nextDefault_100 (g 0) (g 2) post)) n_5)) x1 x2 x4 σ → W p l e rm_X8_nextDefault s m args below meth c H locs 0 0 Q (F0 m 91 ls []) := by
        intro x1 x2 x4 σ H locs ls hP hD hS hl hp
        unfold q_X8_nextDefault_91 at hp
        refine lv_iload hx hb dX8_nextDefault_91 (lv_at hl 3 rfl) ?_
        refine lv_istore_n (lv' := [(3, .int x4), (0, .ref (ad 0)), (1, .int x1), (2, .int x2), (4, .int x4)]) hx hb dX8_nextDefault_93 rfl hl (by decide) rfl (fun ls hl => ?_)
        exact B_94 x1 x2 x4 x4 (σ) _ _ _  hP hD hS (lv_sub hl [1, 2, 3, 0, 4] rfl) hp
      have B_76 : ∀ (x1 : Int32) (x2 : Int32) (x3 : Int32) (x4 : Int32) (σ : Mem) (H : Heap) (locs : List Loc) (ls : Array Slot), va_P D vwCl (WM k ad g (σ)) H → va_D A (WM k ad g (σ)) → va_S A s.heap H locs → lv_has ls 6 [(0, .ref (ad 0)), (1, .int x1), (2, .int x2), (3, .int x3), (4, .int x4)] → (q_X8_nextDefault_76 (g 0) (g 2) post (q_X8_nextDefault_100 (g 0) (g 2) post) (lp_5 (q_X8_nextDefault_5 (g 0) (g 2) post (q_X8_nextDefault_100 (g 0) (g 2) post)) n_5)) x1 x2 x3 x4 σ → W p l e rm_X8_nextDefault s m args below meth c H locs 0 0 Q (F0 m 76 ls []) := by
        intro x1 x2 x3 x4 σ H locs ls hP hD hS hl hp
        unfold q_X8_nextDefault_76 at hp
        refine lv_iload_n hx hb dX8_nextDefault_76 rfl (lv_at hl 3 rfl) ?_
        refine lv_iconst (v := (-1)) hx hb dX8_nextDefault_77 (by decide) ?_
        refine lv_icmp_eq (tgt := 91) hx hb dX8_nextDefault_78 (by decide) (fun c20001 => ?_) (fun c20001 => ?_)
        · have hp := hp.1 c20001
          exact B_91 x1 x2 x4 (σ) _ _ _  hP hD hS (lv_sub hl [0, 1, 2, 4] rfl) hp
        · have hp := hp.2 c20001
          refine lv_aload_n hx hb dX8_nextDefault_81 rfl (lv_at hl 0 rfl) ?_
          refine lv_iload_n hx hb dX8_nextDefault_82 rfl (lv_at hl 3 rfl) ?_
          refine lv_iload hx hb dX8_nextDefault_83 (lv_at hl 4 rfl) ?_
          refine fw_ciV (As := [.int x3, .int x4]) (rest := []) hC (c_X8_isBehind l D k ad g hg hp) (cwV 2 hts (gA_V A_727 A_728 A_729 A_601 A_726) rfl rfl rfl (by decide +kernel) ⟨Nat.le_of_ble_eq_true rfl, Nat.le_of_ble_eq_true rfl⟩) (va_recv hK hP (ci := 12) (q0 := 0) rfl rfl) rfl hl.1 rfl (Nat.le_of_ble_eq_true rfl) dX8_nextDefault_85 ⟨Nat.le_of_ble_eq_true rfl, Nat.le_of_ble_eq_true rfl⟩ hP hD hS Jn.same (fun r20002 σ20003 H locs hP hD hS hp => ?_)
          have hP : va_P D vwCl (WM k ad g (σ20003)) H := hP
          have hD : va_D A (WM k ad g (σ20003)) := hD
          refine lv_if_eq (tgt := 94) hx hb dX8_nextDefault_88 (by decide) (fun c20004 => ?_) (fun c20004 => ?_)
          · have hp := hp.1 c20004
            exact B_94 x1 x2 x3 x4 (σ20003) _ _ _  hP hD hS (lv_sub hl [0, 1, 2, 3, 4] rfl) hp
          · have hp := hp.2 c20004
            exact B_91 x1 x2 x4 (σ20003) _ _ _  hP hD hS (lv_sub hl [0, 1, 2, 4] rfl) hp
      intro x1 x2 x3 x4 σ H locs ls hP hD hS hl hp
      have hp : q_X8_nextDefault_5 (g 0) (g 2) post (q_X8_nextDefault_100 (g 0) (g 2) post) (lp_5 (q_X8_nextDefault_5 (g 0) (g 2) post (q_X8_nextDefault_100 (g 0) (g 2) post)) n_5) x1 x2 x3 x4 σ := hp
      unfold q_X8_nextDefault_5 at hp
      refine lv_iload hx hb dX8_nextDefault_5 (lv_at hl 4 rfl) ?_
      refine lv_aload_n hx hb dX8_nextDefault_7 rfl (lv_at hl 0 rfl) ?_
      refine va_get (D := D) (ci := 12) (C := RX8) (T := TX8) (N := 15) hx hb hts hin_X8 hown hK hP 0 rfl rfl 4 (by decide) hf_19 (fun _ h9 => h9) rfl dX8_nextDefault_8 ?_
      refine wm_size_line (rest := [.int x4]) hC (gA_V (a := Cond.code yX8_nextDefault cX8_nextDefault 6 (some .int)) A_605 A_606 A_607 A_583 A_602) hl.1 rfl (Nat.le_of_ble_eq_true rfl) (Nat.le_of_ble_eq_true rfl) (Nat.le_of_ble_eq_true rfl) dX8_nextDefault_11 ⟨Nat.le_of_ble_eq_true rfl, Nat.le_of_ble_eq_true rfl⟩ hP hD hS (fun H locs hP hD hS => ?_)
      refine lv_icmp_ge (tgt := 100) hx hb dX8_nextDefault_14 (by decide) (fun c10001 => ?_) (fun c10001 => ?_)
      · have hp := hp.1 c10001
        exact B_100 x3 (σ) _ _ _  hP hD hS (lv_sub hl [3] rfl) hp
      · have hp := hp.2 c10001
        refine lv_aload_n hx hb dX8_nextDefault_17 rfl (lv_at hl 0 rfl) ?_
        refine va_get (D := D) (ci := 12) (C := RX8) (T := TX8) (N := 15) hx hb hts hin_X8 hown hK hP 0 rfl rfl 4 (by decide) hf_19 (fun _ h9 => h9) rfl dX8_nextDefault_18 ?_
        refine lv_iload hx hb dX8_nextDefault_21 (lv_at hl 4 rfl) ?_
        obtain ⟨j10002, ⟨hj10002, ej10002⟩, hp⟩ := hp
        refine wm_get_line (rest := []) hC hg hj10002 ej10002 (gA_V (a := Cond.code yX8_nextDefault cX8_nextDefault 6 (some .int)) A_621 A_622 A_623 A_583 A_613) hl.1 rfl (Nat.le_of_ble_eq_true rfl) (Nat.le_of_ble_eq_true rfl) (Nat.le_of_ble_eq_true rfl) dX8_nextDefault_23 ⟨Nat.le_of_ble_eq_true rfl, Nat.le_of_ble_eq_true rfl⟩ hP hD hS (fun H locs hP hD hS => ?_)
        refine va_castS hx hb hown (hts _ (List.mem_cons_of_mem _ A_662)) (hK.1 11 _ rfl).2 (va_recv hK hP (ci := 11) (q0 := lnP g j10002) rfl (WM_ln k ad g (σ) hj10002)) dX8_nextDefault_26 ?_
        refine lv_astore (lv' := [(5, .ref (ad (100 + j10002))), (0, .ref (ad 0)), (1, .int x1), (2, .int x2), (3, .int x3), (4, .int x4)]) hx hb dX8_nextDefault_29 hl (by decide) rfl (fun ls hl => ?_)
        refine lv_aload hx hb dX8_nextDefault_31 (lv_at hl 0 rfl) ?_
        refine va_getN (D := D) (ci := 11) (C := RX7) (T := TX7) (N := 7) hx hb hts hin_X7 hown hK hP (lnP g j10002) (WM_ln k ad g (σ) hj10002) rfl 0 (by decide) (va_Nw.use rfl (GG.nf hG (q := (RX8, 79, "MeetjoinModel$Line", "kind", "I", "MeetjoinModel")) 6 rfl)) (fun _ h9 => h9) rfl dX8_nextDefault_33 ?_
        refine lv_iconst (v := 5) hx hb dX8_nextDefault_36 (by decide) ?_
        refine lv_icmp_ne (tgt := 94) hx hb dX8_nextDefault_37 (by decide) (fun c10003 => ?_) (fun c10003 => ?_)
        · have hp := hp.1 c10003
          exact B_94 x1 x2 x3 x4 (σ) _ _ _  hP hD hS (lv_sub hl [1, 2, 3, 4, 5] rfl) hp
        · have hp := hp.2 c10003
          refine lv_aload hx hb dX8_nextDefault_40 (lv_at hl 0 rfl) ?_
          refine va_getN (D := D) (ci := 11) (C := RX7) (T := TX7) (N := 7) hx hb hts hin_X7 hown hK hP (lnP g j10002) (WM_ln k ad g (σ) hj10002) rfl 2 (by decide) (va_Nw.use rfl (GG.nf hG (q := (RX8, 65, "MeetjoinModel$Line", "field", "I", "MeetjoinModel")) 4 rfl)) (fun _ h9 => h9) rfl dX8_nextDefault_42 ?_
          refine lv_iload_n hx hb dX8_nextDefault_45 rfl (lv_at hl 2 rfl) ?_
          refine lv_icmp_ne (tgt := 94) hx hb dX8_nextDefault_46 (by decide) (fun c10004 => ?_) (fun c10004 => ?_)
          · have hp := hp.1 c10004
            exact B_94 x1 x2 x3 x4 (σ) _ _ _  hP hD hS (lv_sub hl [1, 2, 3, 4, 5] rfl) hp
          · have hp := hp.2 c10004
            refine lv_aload_n hx hb dX8_nextDefault_49 rfl (lv_at hl 1 rfl) ?_
            refine lv_aload hx hb dX8_nextDefault_50 (lv_at hl 0 rfl) ?_
            refine fw_ciV (As := [.ref (ad (100 + j10002))]) (rest := []) hC (c_X8_counts l D k ad g hg hj10002 hp) (cwV 1 hts (gA_V A_624 A_625 A_626 A_601 A_609) rfl rfl rfl (by decide +kernel) ⟨Nat.le_of_ble_eq_true rfl, Nat.le_of_ble_eq_true rfl⟩) (va_recv hK hP (ci := 12) (q0 := 0) rfl rfl) rfl hl.1 rfl (Nat.le_of_ble_eq_true rfl) dX8_nextDefault_52 ⟨Nat.le_of_ble_eq_true rfl, Nat.le_of_ble_eq_true rfl⟩ hP hD hS Jn.same (fun r10005 σ10006 H locs hP hD hS hp => ?_)
            have hP : va_P D vwCl (WM k ad g (σ10006)) H := hP
            have hD : va_D A (WM k ad g (σ10006)) := hD
            refine lv_if_eq (tgt := 94) hx hb dX8_nextDefault_55 (by decide) (fun c10007 => ?_) (fun c10007 => ?_)
            · have hp := hp.1 c10007
              exact B_94 x1 x2 x3 x4 (σ10006) _ _ _  hP hD hS (lv_sub hl [1, 2, 3, 4, 5] rfl) hp
            · have hp := hp.2 c10007
              refine lv_iload_n hx hb dX8_nextDefault_58 rfl (lv_at hl 3 rfl) ?_
              refine lv_iconst (v := (-1)) hx hb dX8_nextDefault_59 (by decide) ?_
              refine lv_icmp_eq (tgt := 76) hx hb dX8_nextDefault_60 (by decide) (fun c10008 => ?_) (fun c10008 => ?_)
              · have hp := hp.1 c10008
                exact B_76 x1 x2 x3 x4 (σ10006) _ _ _  hP hD hS (lv_sub hl [1, 2, 3, 4, 5] rfl) hp
              · have hp := hp.2 c10008
                refine lv_aload_n hx hb dX8_nextDefault_63 rfl (lv_at hl 1 rfl) ?_
                refine lv_iload hx hb dX8_nextDefault_64 (lv_at hl 5 rfl) ?_
                refine lv_iload_n hx hb dX8_nextDefault_66 rfl (lv_at hl 3 rfl) ?_
                refine fw_ciV (As := [.int x4, .int x2]) (rest := []) hC (c_X8_isBehind l D k ad g hg hp) (cwV 2 hts (gA_V A_727 A_728 A_729 A_601 A_726) rfl rfl rfl (by decide +kernel) ⟨Nat.le_of_ble_eq_true rfl, Nat.le_of_ble_eq_true rfl⟩) (va_recv hK hP (ci := 12) (q0 := 0) rfl rfl) rfl hl.1 rfl (Nat.le_of_ble_eq_true rfl) dX8_nextDefault_67 ⟨Nat.le_of_ble_eq_true rfl, Nat.le_of_ble_eq_true rfl⟩ hP hD hS Jn.same (fun r10009 σ10010 H locs hP hD hS hp => ?_)
                have hP : va_P D vwCl (WM k ad g (σ10010)) H := hP
                have hD : va_D A (WM k ad g (σ10010)) := hD
                refine lv_if_ne (tgt := 76) hx hb dX8_nextDefault_70 (by decide) (fun c10011 => ?_) (fun c10011 => ?_)
                · have hp := hp.1 c10011
                  exact B_76 x1 x2 x3 x4 (σ10010) _ _ _  hP hD hS (lv_sub hl [1, 2, 3, 4, 5] rfl) hp
                · have hp := hp.2 c10011
                  refine lv_goto (tgt := 94) hx hb dX8_nextDefault_73 (by decide) ?_
                  exact B_94 x1 x2 x3 x4 (σ10010) _ _ _  hP hD hS (lv_sub hl [1, 2, 3, 4, 5] rfl) hp
  refine lv_iconst (v := (-1)) hx hb dX8_nextDefault_0 (by decide) ?_
  refine lv_istore_n (lv' := [(3, .int (-1)), (0, .ref (ad 0)), (1, .int p1), (2, .int p2)]) hx hb dX8_nextDefault_1 rfl hl (by decide) rfl (fun ls hl => ?_)
  refine lv_iconst (v := 0) hx hb dX8_nextDefault_2 (by decide) ?_
  refine lv_istore (lv' := [(4, .int 0), (3, .int (-1)), (0, .ref (ad 0)), (1, .int p1), (2, .int p2)]) hx hb dX8_nextDefault_3 hl (by decide) rfl (fun ls hl => ?_)
  obtain ⟨n9, hp⟩ := hp
  exact B_5 n9 p1 p2 (-1) 0 (σ) _ _ _  hP hD hS (lv_sub hl [2, 3, 4, 1, 0] rfl) hp
def q_X8_settle_141 (n : Nat) (c : Nat) (post : Mem → Prop)  (σ : Mem) : Prop := post (σ)
def q_X8_settle_135 (n : Nat) (c : Nat) (post : Mem → Prop) (kE_141 : Mem → Prop) (kc_17 : Int32 → Int32 → Mem → Prop) (x1 : Int32) (x2 : Int32) (σ : Mem) : Prop := (∀ v4001 : Int32, v4001 = x2 + 1 → kc_17 x1 v4001 (σ))
def q_X8_settle_123 (n : Nat) (c : Nat) (post : Mem → Prop) (kE_135 : Int32 → Int32 → Mem → Prop) (kc_48 : Int32 → Int32 → Int32 → Int32 → Mem → Prop) (x1 : Int32) (x2 : Int32) (x3 : Int32) (x4 : Int32) (σ : Mem) : Prop := (q_X8_nextDefault n c (fun (r3001 : Int32) (σ3002 : Mem) => kc_48 x1 x2 x3 r3001 (σ3002)) x2 x4 (σ))
def q_X8_settle_48 (n : Nat) (c : Nat) (post : Mem → Prop) (kE_135 : Int32 → Int32 → Mem → Prop) (kc_48 : Int32 → Int32 → Int32 → Int32 → Mem → Prop) (x1 : Int32) (x2 : Int32) (x3 : Int32) (x4 : Int32) (σ : Mem) : Prop := ((x4 = (-1) → kE_135 x1 x2 (σ)) ∧ (¬ (x4 = (-1)) → ((x3 = 0 → kE_135 x1 x2 (σ)) ∧ (¬ (x3 = 0) → (∃ j2003 : Nat, (j2003 < n ∧ x4 = nI j2003) ∧ (∀ v2004 : Int32, v2004 = ((σ) (100 + j2003) 3) → (q_X8_canBe n c (fun (r2005 : Int32) (σ2006 : Mem) => ((r2005 ≠ 0 → (q_X8_copy n c (fun (σ2009 : Mem) => (q_X8_only n c (fun (σ2011 : Mem) => (q_X8_meet n c (fun (r2012 : Int32) (σ2013 : Mem) => ((r2012 = 0 → (q_X8_copy n c (fun (σ2016 : Mem) => (q_X8_settle_123 n c post kE_135 kc_48) x1 x2 0 x4 (σ2016)) 1 0 (σ2013))) ∧ (¬ (r2012 = 0) → (q_X8_settle_123 n c post kE_135 kc_48) x1 x2 x3 x4 (σ2013)))) 1 x1 (σ2011))) 1 x2 v2004 (σ2009))) 0 1 (σ2006))) ∧ (r2005 = 0 → (q_X8_settle_123 n c post kE_135 kc_48) x1 x2 x3 x4 (σ2006)))) 0 x2 v2004 (σ))))))))
def q_X8_settle_17 (n : Nat) (c : Nat) (post : Mem → Prop) (kE_141 : Mem → Prop) (kc_17 : Int32 → Int32 → Mem → Prop) (x1 : Int32) (x2 : Int32) (σ : Mem) : Prop := ((((σ) 0 3) ≤ x2 → kE_141 (σ)) ∧ (¬ (((σ) 0 3) ≤ x2) → (q_X8_count n c (fun (r1002 : Int32) (σ1003 : Mem) => ((2 ≤ r1002 → (q_X8_nextDefault n c (fun (r1005 : Int32) (σ1006 : Mem) => (∃ n9 : Nat, lp_5 (q_X8_settle_48 n c post (q_X8_settle_135 n c post kE_141 kc_17)) n9 x1 x2 1 r1005 (σ1006))) x2 (-1) (σ1003))) ∧ (¬ (2 ≤ r1002) → (q_X8_settle_135 n c post kE_141 kc_17) x1 x2 (σ1003)))) 0 x2 (σ))))
def q_X8_settle (n : Nat) (c : Nat) (post : Mem → Prop) (σ : Mem) : Prop := (q_X8_counting n c (fun (r1 : Int32) (σ2 : Mem) => (q_X8_meetAnew n c (fun (r3 : Int32) (σ4 : Mem) => ((r3 = 0 → (∃ n9 : Nat, lp_3 (q_X8_settle_17 n c post (q_X8_settle_141 n c post)) n9 r1 0 (σ4))) ∧ (¬ (r3 = 0) → post (σ4)))) 0 r1 (σ2))) (σ))
abbrev rm_X8_settle : Room := { frames := 6, cells := 0, slots := 0, locals := 309 }
abbrev wq_X8_settle : List Cond := Cond.code yX8_settle cX8_settle 6 none :: wALL
set_option maxHeartbeats 4000000 in
set_option maxRecDepth 100000 in
theorem c_X8_settle (l : Launch) (D : va_G) (k ad g : Nat → Nat) (hg : gok g) {sz : Nat} {σ : Mem} {post : Mem → Prop} (hp : q_X8_settle (g 0) (g 2) post σ) : Met l yX8_settle wq_X8_settle rm_X8_settle (va_Pc [.ref (ad 0)] (Pw D k (WM k ad g (σ)) sz)) (va_Qv post (fun u => Bw D (WM k ad g (σ)) sz (WM k ad g u)) (va_A (WM k ad g (σ)) sz)) 0 0 (va_A (WM k ad g (σ)) sz) := by
  refine fw_v (wf := fun u : Mem => WM k ad g u) (by decide) rfl (Nat.le_of_ble_eq_true rfl) ?_
  intro p e s m args below meth c A Q ls hC hP hD hl hmn hret
  obtain ⟨⟨hx, hb, hml, hown, hts⟩, hG, hA⟩ := id hC
  have hK := hG.1
  have hS : va_S A s.heap s.heap [] := va_S.rf
  have hin_X8 : ∀ w ∈ u_ws RX8 TX8 15, w ∈ wq_X8_settle := fun w h => List.mem_cons_of_mem _ (iU_X8 w h)
  have hf_45 := hts _ (List.mem_cons_of_mem _ A_598)
  have hf_19 := hts _ (List.mem_cons_of_mem _ A_584)
  have hin_X7 : ∀ w ∈ u_ws RX7 TX7 7, w ∈ wq_X8_settle := fun w h => List.mem_cons_of_mem _ (iU_X7 w h)
  have hl : lv_has ls 6 [(0, .ref (ad 0))] := hl
  have hown : s.vm.findClass RX8 = some m.cls := hown
  unfold q_X8_settle at hp
  have B_141 : ∀  (σ : Mem) (H : Heap) (locs : List Loc) (ls : Array Slot), va_P D vwCl (WM k ad g (σ)) H → va_D A (WM k ad g (σ)) → va_S A s.heap H locs → lv_has ls 6 [] → (q_X8_settle_141 (g 0) (g 2) post)  σ → W p l e rm_X8_settle s m args below meth c H locs 0 0 Q (F0 m 141 ls []) := by
    intro  σ H locs ls hP hD hS hl hp
    unfold q_X8_settle_141 at hp
    exact hret (σ) _ _ _ _ _ _ dX8_settle_141 hP hD hS (Nat.le_of_ble_eq_true rfl) (Nat.le_of_ble_eq_true rfl) hp
  have B_17 : ∀ (n_17 : Nat) (x1 : Int32) (x2 : Int32) (σ : Mem) (H : Heap) (locs : List Loc) (ls : Array Slot), va_P D vwCl (WM k ad g (σ)) H → va_D A (WM k ad g (σ)) → va_S A s.heap H locs → lv_has ls 6 [(0, .ref (ad 0)), (1, .int x1), (2, .int x2)] → lp_3 (q_X8_settle_17 (g 0) (g 2) post (q_X8_settle_141 (g 0) (g 2) post)) n_17 x1 x2 σ → W p l e rm_X8_settle s m args below meth c H locs 0 0 Q (F0 m 17 ls []) := by
    intro n_17
    induction n_17 with
    | zero => intro x1 x2 σ H locs ls hP hD hS hl hp; exact hp.elim
    | succ n_17 ih_17 =>
      have B_135 : ∀ (x1 : Int32) (x2 : Int32) (σ : Mem) (H : Heap) (locs : List Loc) (ls : Array Slot), va_P D vwCl (WM k ad g (σ)) H → va_D A (WM k ad g (σ)) → va_S A s.heap H locs → lv_has ls 6 [(0, .ref (ad 0)), (1, .int x1), (2, .int x2)] → (q_X8_settle_135 (g 0) (g 2) post (q_X8_settle_141 (g 0) (g 2) post) (lp_3 (q_X8_settle_17 (g 0) (g 2) post (q_X8_settle_141 (g 0) (g 2) post)) n_17)) x1 x2 σ → W p l e rm_X8_settle s m args below meth c H locs 0 0 Q (F0 m 135 ls []) := by
        intro x1 x2 σ H locs ls hP hD hS hl hp
        unfold q_X8_settle_135 at hp
        obtain ⟨v40001, ev40001⟩ : ∃ z : Int32, z = x2 + 1 := ⟨_, rfl⟩
        have hp := hp v40001 ev40001
        refine lv_iinc (v := v40001) (lv' := [(2, .int v40001), (0, .ref (ad 0)), (1, .int x1)]) hx hb dX8_settle_135 hl (k := 2) rfl (by rw [ev40001]; rfl) (by decide) rfl (fun ls hl => ?_)
        refine lv_goto (tgt := 17) hx hb dX8_settle_138 (by decide) ?_
        exact ih_17 x1 v40001 (σ) _ _ _  hP hD hS (lv_sub hl [1, 2, 0] rfl) hp
      have B_48 : ∀ (n_48 : Nat) (x1 : Int32) (x2 : Int32) (x3 : Int32) (x4 : Int32) (σ : Mem) (H : Heap) (locs : List Loc) (ls : Array Slot), va_P D vwCl (WM k ad g (σ)) H → va_D A (WM k ad g (σ)) → va_S A s.heap H locs → lv_has ls 6 [(0, .ref (ad 0)), (1, .int x1), (2, .int x2), (3, .int x3), (4, .int x4)] → lp_5 (q_X8_settle_48 (g 0) (g 2) post (q_X8_settle_135 (g 0) (g 2) post (q_X8_settle_141 (g 0) (g 2) post) (lp_3 (q_X8_settle_17 (g 0) (g 2) post (q_X8_settle_141 (g 0) (g 2) post)) n_17))) n_48 x1 x2 x3 x4 σ → W p l e rm_X8_settle s m args below meth c H locs 0 0 Q (F0 m 48 ls []) := by
        intro n_48
        induction n_48 with
        | zero => intro x1 x2 x3 x4 σ H locs ls hP hD hS hl hp; exact hp.elim
        | succ n_48 ih_48 =>
          have B_123 : ∀ (x1 : Int32) (x2 : Int32) (x3 : Int32) (x4 : Int32) (σ : Mem) (H : Heap) (locs : List Loc) (ls : Array Slot), va_P D vwCl (WM k ad g (σ)) H → va_D A (WM k ad g (σ)) → va_S A s.heap H locs → lv_has ls 6 [(0, .ref (ad 0)), (1, .int x1), (2, .int x2), (3, .int x3), (4, .int x4)] → (q_X8_settle_123 (g 0) (g 2) post (q_X8_settle_135 (g 0) (g 2) post (q_X8_settle_141 (g 0) (g 2) post) (lp_3 (q_X8_settle_17 (g 0) (g 2) post (q_X8_settle_141 (g 0) (g 2) post)) n_17)) (lp_5 (q_X8_settle_48 (g 0) (g 2) post (q_X8_settle_135 (g 0) (g 2) post (q_X8_settle_141 (g 0) (g 2) post) (lp_3 (q_X8_settle_17 (g 0) (g 2) post (q_X8_settle_141 (g 0) (g 2) post)) n_17))) n_48)) x1 x2 x3 x4 σ → W p l e rm_X8_settle s m args below meth c H locs 0 0 Q (F0 m 123 ls []) := by
            intro x1 x2 x3 x4 σ H locs ls hP hD hS hl hp
            unfold q_X8_settle_123 at hp
            refine lv_aload_n hx hb dX8_settle_123 rfl (lv_at hl 0 rfl) ?_
            refine lv_iload_n hx hb dX8_settle_124 rfl (lv_at hl 2 rfl) ?_
            refine lv_iload hx hb dX8_settle_125 (lv_at hl 4 rfl) ?_
            refine fw_ciV (As := [.int x2, .int x4]) (rest := []) hC (c_X8_nextDefault l D k ad g hg hp) (cwV 2 hts (gA_V A_740 A_741 A_742 A_601 A_730) rfl rfl rfl (by decide +kernel) ⟨Nat.le_of_ble_eq_true rfl, Nat.le_of_ble_eq_true rfl⟩) (va_recv hK hP (ci := 12) (q0 := 0) rfl rfl) rfl hl.1 rfl (Nat.le_of_ble_eq_true rfl) dX8_settle_127 ⟨Nat.le_of_ble_eq_true rfl, Nat.le_of_ble_eq_true rfl⟩ hP hD hS Jn.same (fun r30001 σ30002 H locs hP hD hS hp => ?_)
            have hP : va_P D vwCl (WM k ad g (σ30002)) H := hP
            have hD : va_D A (WM k ad g (σ30002)) := hD
            refine lv_istore (lv' := [(4, .int r30001), (0, .ref (ad 0)), (1, .int x1), (2, .int x2), (3, .int x3)]) hx hb dX8_settle_130 hl (by decide) rfl (fun ls hl => ?_)
            refine lv_goto (tgt := 48) hx hb dX8_settle_132 (by decide) ?_
            exact ih_48 x1 x2 x3 r30001 (σ30002) _ _ _  hP hD hS (lv_sub hl [1, 2, 3, 4, 0] rfl) hp
          intro x1 x2 x3 x4 σ H locs ls hP hD hS hl hp
          have hp : q_X8_settle_48 (g 0) (g 2) post (q_X8_settle_135 (g 0) (g 2) post (q_X8_settle_141 (g 0) (g 2) post) (lp_3 (q_X8_settle_17 (g 0) (g 2) post (q_X8_settle_141 (g 0) (g 2) post)) n_17)) (lp_5 (q_X8_settle_48 (g 0) (g 2) post (q_X8_settle_135 (g 0) (g 2) post (q_X8_settle_141 (g 0) (g 2) post) (lp_3 (q_X8_settle_17 (g 0) (g 2) post (q_X8_settle_141 (g 0) (g 2) post)) n_17))) n_48) x1 x2 x3 x4 σ := hp
          unfold q_X8_settle_48 at hp
          refine lv_iload hx hb dX8_settle_48 (lv_at hl 4 rfl) ?_
          refine lv_iconst (v := (-1)) hx hb dX8_settle_50 (by decide) ?_
          refine lv_icmp_eq (tgt := 135) hx hb dX8_settle_51 (by decide) (fun c20001 => ?_) (fun c20001 => ?_)
          · have hp := hp.1 c20001
            exact B_135 x1 x2 (σ) _ _ _  hP hD hS (lv_sub hl [0, 1, 2] rfl) hp
          · have hp := hp.2 c20001
            refine lv_iload_n hx hb dX8_settle_54 rfl (lv_at hl 3 rfl) ?_
            refine lv_if_eq (tgt := 135) hx hb dX8_settle_55 (by decide) (fun c20002 => ?_) (fun c20002 => ?_)
            · have hp := hp.1 c20002
              exact B_135 x1 x2 (σ) _ _ _  hP hD hS (lv_sub hl [0, 1, 2] rfl) hp
            · have hp := hp.2 c20002
              refine lv_aload_n hx hb dX8_settle_58 rfl (lv_at hl 0 rfl) ?_
              refine va_get (D := D) (ci := 12) (C := RX8) (T := TX8) (N := 15) hx hb hts hin_X8 hown hK hP 0 rfl rfl 4 (by decide) hf_19 (fun _ h9 => h9) rfl dX8_settle_59 ?_
              refine lv_iload hx hb dX8_settle_62 (lv_at hl 4 rfl) ?_
              obtain ⟨j20003, ⟨hj20003, ej20003⟩, hp⟩ := hp
              refine wm_get_line (rest := []) hC hg hj20003 ej20003 (gA_V (a := Cond.code yX8_settle cX8_settle 6 none) A_621 A_622 A_623 A_583 A_613) hl.1 rfl (Nat.le_of_ble_eq_true rfl) (Nat.le_of_ble_eq_true rfl) (Nat.le_of_ble_eq_true rfl) dX8_settle_64 ⟨Nat.le_of_ble_eq_true rfl, Nat.le_of_ble_eq_true rfl⟩ hP hD hS (fun H locs hP hD hS => ?_)
              refine va_castS hx hb hown (hts _ (List.mem_cons_of_mem _ A_662)) (hK.1 11 _ rfl).2 (va_recv hK hP (ci := 11) (q0 := lnP g j20003) rfl (WM_ln k ad g (σ) hj20003)) dX8_settle_67 ?_
              refine va_getN (D := D) (ci := 11) (C := RX7) (T := TX7) (N := 7) hx hb hts hin_X7 hown hK hP (lnP g j20003) (WM_ln k ad g (σ) hj20003) rfl 3 (by decide) (va_Nw.use rfl (GG.nf hG (q := (RX8, 91, "MeetjoinModel$Line", "what", "I", "MeetjoinModel")) 7 rfl)) (fun _ h9 => h9) rfl dX8_settle_70 ?_
              refine lv_topi (fun v20004 ev20004 => ?_)
              have hp := hp v20004 ev20004
              refine lv_istore (lv' := [(5, .int v20004), (0, .ref (ad 0)), (1, .int x1), (2, .int x2), (3, .int x3), (4, .int x4)]) hx hb dX8_settle_73 hl (by decide) rfl (fun ls hl => ?_)
              refine lv_aload_n hx hb dX8_settle_75 rfl (lv_at hl 1 rfl) ?_
              refine lv_iconst (v := 0) hx hb dX8_settle_76 (by decide) ?_
              refine lv_iload_n hx hb dX8_settle_77 rfl (lv_at hl 3 rfl) ?_
              refine lv_iload hx hb dX8_settle_78 (lv_at hl 0 rfl) ?_
              refine fw_ciV (As := [.int 0, .int x2, .int v20004]) (rest := []) hC (c_X8_canBe l D k ad g hg hp) (cwV 3 hts (gA_V A_743 A_744 A_745 A_601 A_701) rfl rfl rfl (by decide +kernel) ⟨Nat.le_of_ble_eq_true rfl, Nat.le_of_ble_eq_true rfl⟩) (va_recv hK hP (ci := 12) (q0 := 0) rfl rfl) rfl hl.1 rfl (Nat.le_of_ble_eq_true rfl) dX8_settle_80 ⟨Nat.le_of_ble_eq_true rfl, Nat.le_of_ble_eq_true rfl⟩ hP hD hS Jn.same (fun r20005 σ20006 H locs hP hD hS hp => ?_)
              have hP : va_P D vwCl (WM k ad g (σ20006)) H := hP
              have hD : va_D A (WM k ad g (σ20006)) := hD
              refine lv_if_ne (tgt := 89) hx hb dX8_settle_83 (by decide) (fun c20007 => ?_) (fun c20007 => ?_)
              · have hp := hp.1 c20007
                refine lv_aload_n hx hb dX8_settle_89 rfl (lv_at hl 1 rfl) ?_
                refine lv_iconst (v := 0) hx hb dX8_settle_90 (by decide) ?_
                refine lv_iconst (v := 1) hx hb dX8_settle_91 (by decide) ?_
                refine fw_cvV (As := [.int 0, .int 1]) (rest := []) hC (c_X8_copy l D k ad g hg hp) (cwV 2 hts (gA_V A_746 A_747 A_748 A_601 A_688) rfl rfl rfl (by decide +kernel) ⟨Nat.le_of_ble_eq_true rfl, Nat.le_of_ble_eq_true rfl⟩) (va_recv hK hP (ci := 12) (q0 := 0) rfl rfl) rfl hl.1 rfl (Nat.le_of_ble_eq_true rfl) dX8_settle_92 ⟨Nat.le_of_ble_eq_true rfl, Nat.le_of_ble_eq_true rfl⟩ hP hD hS Jn.same (fun σ20009 H locs hP hD hS hp => ?_)
                have hP : va_P D vwCl (WM k ad g (σ20009)) H := hP
                have hD : va_D A (WM k ad g (σ20009)) := hD
                refine lv_aload_n hx hb dX8_settle_95 rfl (lv_at hl 1 rfl) ?_
                refine lv_iconst (v := 1) hx hb dX8_settle_96 (by decide) ?_
                refine lv_iload_n hx hb dX8_settle_97 rfl (lv_at hl 3 rfl) ?_
                refine lv_iload hx hb dX8_settle_98 (lv_at hl 0 rfl) ?_
                refine fw_cvV (As := [.int 1, .int x2, .int v20004]) (rest := []) hC (c_X8_only l D k ad g hg hp) (cwV 3 hts (gA_V A_749 A_750 A_751 A_601 A_725) rfl rfl rfl (by decide +kernel) ⟨Nat.le_of_ble_eq_true rfl, Nat.le_of_ble_eq_true rfl⟩) (va_recv hK hP (ci := 12) (q0 := 0) rfl rfl) rfl hl.1 rfl (Nat.le_of_ble_eq_true rfl) dX8_settle_100 ⟨Nat.le_of_ble_eq_true rfl, Nat.le_of_ble_eq_true rfl⟩ hP hD hS Jn.same (fun σ20011 H locs hP hD hS hp => ?_)
                have hP : va_P D vwCl (WM k ad g (σ20011)) H := hP
                have hD : va_D A (WM k ad g (σ20011)) := hD
                refine lv_aload_n hx hb dX8_settle_103 rfl (lv_at hl 1 rfl) ?_
                refine lv_iconst (v := 1) hx hb dX8_settle_104 (by decide) ?_
                refine lv_iload_n hx hb dX8_settle_105 rfl (lv_at hl 2 rfl) ?_
                refine fw_ciV (As := [.int 1, .int x1]) (rest := []) hC (c_X8_meet l D k ad g hg hp) (cwV 2 hts (gA_V A_721 A_722 A_723 A_601 A_717) rfl rfl rfl (by decide +kernel) ⟨Nat.le_of_ble_eq_true rfl, Nat.le_of_ble_eq_true rfl⟩) (va_recv hK hP (ci := 12) (q0 := 0) rfl rfl) rfl hl.1 rfl (Nat.le_of_ble_eq_true rfl) dX8_settle_106 ⟨Nat.le_of_ble_eq_true rfl, Nat.le_of_ble_eq_true rfl⟩ hP hD hS Jn.same (fun r20012 σ20013 H locs hP hD hS hp => ?_)
                have hP : va_P D vwCl (WM k ad g (σ20013)) H := hP
                have hD : va_D A (WM k ad g (σ20013)) := hD
                refine lv_if_eq (tgt := 115) hx hb dX8_settle_109 (by decide) (fun c20014 => ?_) (fun c20014 => ?_)
                · have hp := hp.1 c20014
                  refine lv_aload_n hx hb dX8_settle_115 rfl (lv_at hl 1 rfl) ?_
                  refine lv_iconst (v := 1) hx hb dX8_settle_116 (by decide) ?_
                  refine lv_iconst (v := 0) hx hb dX8_settle_117 (by decide) ?_
                  refine fw_cvV (As := [.int 1, .int 0]) (rest := []) hC (c_X8_copy l D k ad g hg hp) (cwV 2 hts (gA_V A_746 A_747 A_748 A_601 A_688) rfl rfl rfl (by decide +kernel) ⟨Nat.le_of_ble_eq_true rfl, Nat.le_of_ble_eq_true rfl⟩) (va_recv hK hP (ci := 12) (q0 := 0) rfl rfl) rfl hl.1 rfl (Nat.le_of_ble_eq_true rfl) dX8_settle_118 ⟨Nat.le_of_ble_eq_true rfl, Nat.le_of_ble_eq_true rfl⟩ hP hD hS Jn.same (fun σ20016 H locs hP hD hS hp => ?_)
                  have hP : va_P D vwCl (WM k ad g (σ20016)) H := hP
                  have hD : va_D A (WM k ad g (σ20016)) := hD
                  refine lv_iconst (v := 0) hx hb dX8_settle_121 (by decide) ?_
                  refine lv_istore_n (lv' := [(3, .int 0), (5, .int v20004), (0, .ref (ad 0)), (1, .int x1), (2, .int x2), (4, .int x4)]) hx hb dX8_settle_122 rfl hl (by decide) rfl (fun ls hl => ?_)
                  exact B_123 x1 x2 0 x4 (σ20016) _ _ _  hP hD hS (lv_sub hl [2, 3, 4, 0, 5] rfl) hp
                · have hp := hp.2 c20014
                  refine lv_goto (tgt := 123) hx hb dX8_settle_112 (by decide) ?_
                  exact B_123 x1 x2 x3 x4 (σ20013) _ _ _  hP hD hS (lv_sub hl [1, 2, 3, 4, 5] rfl) hp
              · have hp := hp.2 c20007
                refine lv_goto (tgt := 123) hx hb dX8_settle_86 (by decide) ?_
                exact B_123 x1 x2 x3 x4 (σ20006) _ _ _  hP hD hS (lv_sub hl [1, 2, 3, 4, 5] rfl) hp
      intro x1 x2 σ H locs ls hP hD hS hl hp
      have hp : q_X8_settle_17 (g 0) (g 2) post (q_X8_settle_141 (g 0) (g 2) post) (lp_3 (q_X8_settle_17 (g 0) (g 2) post (q_X8_settle_141 (g 0) (g 2) post)) n_17) x1 x2 σ := hp
      unfold q_X8_settle_17 at hp
      refine lv_iload_n hx hb dX8_settle_17 rfl (lv_at hl 2 rfl) ?_
      refine lv_aload_n hx hb dX8_settle_18 rfl (lv_at hl 0 rfl) ?_
      refine va_get (D := D) (ci := 12) (C := RX8) (T := TX8) (N := 15) hx hb hts hin_X8 hown hK hP 0 rfl rfl 3 (by decide) hf_45 (fun _ h9 => h9) rfl dX8_settle_19 ?_
      refine lv_icmp_ge (tgt := 141) hx hb dX8_settle_22 (by decide) (fun c10001 => ?_) (fun c10001 => ?_)
      · have hp := hp.1 c10001
        exact B_141  (σ) _ _ _  hP hD hS (lv_sub hl [] rfl) hp
      · have hp := hp.2 c10001
        refine lv_aload_n hx hb dX8_settle_25 rfl (lv_at hl 0 rfl) ?_
        refine lv_iconst (v := 0) hx hb dX8_settle_26 (by decide) ?_
        refine lv_iload_n hx hb dX8_settle_27 rfl (lv_at hl 2 rfl) ?_
        refine fw_ciV (As := [.int 0, .int x2]) (rest := []) hC (c_X8_count l D k ad g hg hp) (cwV 2 hts (gA_V A_737 A_738 A_739 A_601 A_691) rfl rfl rfl (by decide +kernel) ⟨Nat.le_of_ble_eq_true rfl, Nat.le_of_ble_eq_true rfl⟩) (va_recv hK hP (ci := 12) (q0 := 0) rfl rfl) rfl hl.1 rfl (Nat.le_of_ble_eq_true rfl) dX8_settle_28 ⟨Nat.le_of_ble_eq_true rfl, Nat.le_of_ble_eq_true rfl⟩ hP hD hS Jn.same (fun r10002 σ10003 H locs hP hD hS hp => ?_)
        have hP : va_P D vwCl (WM k ad g (σ10003)) H := hP
        have hD : va_D A (WM k ad g (σ10003)) := hD
        refine lv_iconst (v := 2) hx hb dX8_settle_31 (by decide) ?_
        refine lv_icmp_ge (tgt := 38) hx hb dX8_settle_32 (by decide) (fun c10004 => ?_) (fun c10004 => ?_)
        · have hp := hp.1 c10004
          refine lv_iconst (v := 1) hx hb dX8_settle_38 (by decide) ?_
          refine lv_istore_n (lv' := [(3, .int 1), (0, .ref (ad 0)), (1, .int x1), (2, .int x2)]) hx hb dX8_settle_39 rfl hl (by decide) rfl (fun ls hl => ?_)
          refine lv_aload_n hx hb dX8_settle_40 rfl (lv_at hl 1 rfl) ?_
          refine lv_iload_n hx hb dX8_settle_41 rfl (lv_at hl 3 rfl) ?_
          refine lv_iconst (v := (-1)) hx hb dX8_settle_42 (by decide) ?_
          refine fw_ciV (As := [.int x2, .int (-1)]) (rest := []) hC (c_X8_nextDefault l D k ad g hg hp) (cwV 2 hts (gA_V A_740 A_741 A_742 A_601 A_730) rfl rfl rfl (by decide +kernel) ⟨Nat.le_of_ble_eq_true rfl, Nat.le_of_ble_eq_true rfl⟩) (va_recv hK hP (ci := 12) (q0 := 0) rfl rfl) rfl hl.1 rfl (Nat.le_of_ble_eq_true rfl) dX8_settle_43 ⟨Nat.le_of_ble_eq_true rfl, Nat.le_of_ble_eq_true rfl⟩ hP hD hS Jn.same (fun r10005 σ10006 H locs hP hD hS hp => ?_)
          have hP : va_P D vwCl (WM k ad g (σ10006)) H := hP
          have hD : va_D A (WM k ad g (σ10006)) := hD
          refine lv_istore (lv' := [(4, .int r10005), (3, .int 1), (0, .ref (ad 0)), (1, .int x1), (2, .int x2)]) hx hb dX8_settle_46 hl (by decide) rfl (fun ls hl => ?_)
          obtain ⟨n9, hp⟩ := hp
          exact B_48 n9 x1 x2 1 r10005 (σ10006) _ _ _  hP hD hS (lv_sub hl [2, 3, 4, 1, 0] rfl) hp
        · have hp := hp.2 c10004
          refine lv_goto (tgt := 135) hx hb dX8_settle_35 (by decide) ?_
          exact B_135 x1 x2 (σ10003) _ _ _  hP hD hS (lv_sub hl [0, 1, 2] rfl) hp
  refine lv_aload_n hx hb dX8_settle_0 rfl (lv_at hl 0 rfl) ?_
  refine fw_ciV (As := []) (rest := []) hC (c_X8_counting l D k ad g hg hp) (cwV 0 hts (gA_V A_731 A_732 A_733 A_601 A_627) rfl rfl rfl (by decide +kernel) ⟨Nat.le_of_ble_eq_true rfl, Nat.le_of_ble_eq_true rfl⟩) (va_recv hK hP (ci := 12) (q0 := 0) rfl rfl) rfl hl.1 rfl (Nat.le_of_ble_eq_true rfl) dX8_settle_1 ⟨Nat.le_of_ble_eq_true rfl, Nat.le_of_ble_eq_true rfl⟩ hP hD hS Jn.same (fun r1 σ2 H locs hP hD hS hp => ?_)
  have hP : va_P D vwCl (WM k ad g (σ2)) H := hP
  have hD : va_D A (WM k ad g (σ2)) := hD
  refine lv_istore_n (lv' := [(1, .int r1), (0, .ref (ad 0))]) hx hb dX8_settle_4 rfl hl (by decide) rfl (fun ls hl => ?_)
  refine lv_aload_n hx hb dX8_settle_5 rfl (lv_at hl 1 rfl) ?_
  refine lv_iconst (v := 0) hx hb dX8_settle_6 (by decide) ?_
  refine lv_iload_n hx hb dX8_settle_7 rfl (lv_at hl 0 rfl) ?_
  refine fw_ciV (As := [.int 0, .int r1]) (rest := []) hC (c_X8_meetAnew l D k ad g hg hp) (cwV 2 hts (gA_V A_734 A_735 A_736 A_601 A_724) rfl rfl rfl (by decide +kernel) ⟨Nat.le_of_ble_eq_true rfl, Nat.le_of_ble_eq_true rfl⟩) (va_recv hK hP (ci := 12) (q0 := 0) rfl rfl) rfl hl.1 rfl (Nat.le_of_ble_eq_true rfl) dX8_settle_8 ⟨Nat.le_of_ble_eq_true rfl, Nat.le_of_ble_eq_true rfl⟩ hP hD hS Jn.same (fun r3 σ4 H locs hP hD hS hp => ?_)
  have hP : va_P D vwCl (WM k ad g (σ4)) H := hP
  have hD : va_D A (WM k ad g (σ4)) := hD
  refine lv_if_eq (tgt := 15) hx hb dX8_settle_11 (by decide) (fun c5 => ?_) (fun c5 => ?_)
  · have hp := hp.1 c5
    refine lv_iconst (v := 0) hx hb dX8_settle_15 (by decide) ?_
    refine lv_istore_n (lv' := [(2, .int 0), (1, .int r1), (0, .ref (ad 0))]) hx hb dX8_settle_16 rfl hl (by decide) rfl (fun ls hl => ?_)
    obtain ⟨n9, hp⟩ := hp
    exact B_17 n9 r1 0 (σ4) _ _ _  hP hD hS (lv_sub hl [2, 1, 0] rfl) hp
  · have hp := hp.2 c5
    exact hret (σ4) _ _ _ _ _ _ dX8_settle_14 hP hD hS (Nat.le_of_ble_eq_true rfl) (Nat.le_of_ble_eq_true rfl) hp
def q_X8_whatIs_24 (n : Nat) (c : Nat) (post : Int32 → Mem → Prop)  (s0 : Int32) (σ : Mem) : Prop := post s0 (σ)
def q_X8_whatIs (n : Nat) (c : Nat) (post : Int32 → Mem → Prop) (p1 : Int32) (σ : Mem) : Prop := (q_X8_settle n c (fun (σ2 : Mem) => (q_X8_count n c (fun (r3 : Int32) (σ4 : Mem) => ((r3 ≠ 1 → (q_X8_whatIs_24 n c post) (-1) (σ4)) ∧ (r3 = 1 → (q_X8_least n c (fun (r6 : Int32) (σ7 : Mem) => (q_X8_whatIs_24 n c post) r6 (σ7)) 0 p1 (σ4))))) 0 p1 (σ2))) (σ))
abbrev rm_X8_whatIs : Room := { frames := 7, cells := 0, slots := 0, locals := 334 }
abbrev wq_X8_whatIs : List Cond := Cond.code yX8_whatIs cX8_whatIs 2 (some .int) :: wALL
set_option maxHeartbeats 4000000 in
set_option maxRecDepth 100000 in
theorem c_X8_whatIs (l : Launch) (D : va_G) (k ad g : Nat → Nat) (hg : gok g) {sz : Nat} {σ : Mem} {p1 : Int32} {post : Int32 → Mem → Prop} (hp : q_X8_whatIs (g 0) (g 2) post p1 σ) : Met l yX8_whatIs wq_X8_whatIs rm_X8_whatIs (va_Pc [.ref (ad 0), .int p1] (Pw D k (WM k ad g (σ)) sz)) (va_Qi post (fun u => Bw D (WM k ad g (σ)) sz (WM k ad g u)) (va_A (WM k ad g (σ)) sz)) 0 0 (va_A (WM k ad g (σ)) sz) := by
  refine fw_i (wf := fun u : Mem => WM k ad g u) (by decide) rfl (Nat.le_of_ble_eq_true rfl) ?_
  intro p e s m args below meth c A Q ls hC hP hD hl hret
  obtain ⟨⟨hx, hb, hml, hown, hts⟩, hG, hA⟩ := id hC
  have hK := hG.1
  have hS : va_S A s.heap s.heap [] := va_S.rf
  have hl : lv_has ls 2 [(0, .ref (ad 0)), (1, .int p1)] := hl
  have hown : s.vm.findClass RX8 = some m.cls := hown
  unfold q_X8_whatIs at hp
  have B_24 : ∀ (s0 : Int32) (σ : Mem) (H : Heap) (locs : List Loc) (ls : Array Slot), va_P D vwCl (WM k ad g (σ)) H → va_D A (WM k ad g (σ)) → va_S A s.heap H locs → lv_has ls 2 [] → (q_X8_whatIs_24 (g 0) (g 2) post) s0 σ → W p l e rm_X8_whatIs s m args below meth c H locs 0 0 Q (F0 m 24 ls [.int s0]) := by
    intro s0 σ H locs ls hP hD hS hl hp
    unfold q_X8_whatIs_24 at hp
    exact hret s0 (σ) _ _ _ _ _ _ dX8_whatIs_24 rfl hP hD hS (Nat.le_of_ble_eq_true rfl) (Nat.le_of_ble_eq_true rfl) hp
  refine lv_aload_n hx hb dX8_whatIs_0 rfl (lv_at hl 0 rfl) ?_
  refine fw_cvV (As := []) (rest := []) hC (c_X8_settle l D k ad g hg hp) (cwV 0 hts (gA_V A_753 A_754 A_755 A_601 A_752) rfl rfl rfl (by decide +kernel) ⟨Nat.le_of_ble_eq_true rfl, Nat.le_of_ble_eq_true rfl⟩) (va_recv hK hP (ci := 12) (q0 := 0) rfl rfl) rfl hl.1 rfl (Nat.le_of_ble_eq_true rfl) dX8_whatIs_1 ⟨Nat.le_of_ble_eq_true rfl, Nat.le_of_ble_eq_true rfl⟩ hP hD hS Jn.same (fun σ2 H locs hP hD hS hp => ?_)
  have hP : va_P D vwCl (WM k ad g (σ2)) H := hP
  have hD : va_D A (WM k ad g (σ2)) := hD
  refine lv_aload_n hx hb dX8_whatIs_4 rfl (lv_at hl 0 rfl) ?_
  refine lv_iconst (v := 0) hx hb dX8_whatIs_5 (by decide) ?_
  refine lv_iload_n hx hb dX8_whatIs_6 rfl (lv_at hl 1 rfl) ?_
  refine fw_ciV (As := [.int 0, .int p1]) (rest := []) hC (c_X8_count l D k ad g hg hp) (cwV 2 hts (gA_V A_737 A_738 A_739 A_601 A_691) rfl rfl rfl (by decide +kernel) ⟨Nat.le_of_ble_eq_true rfl, Nat.le_of_ble_eq_true rfl⟩) (va_recv hK hP (ci := 12) (q0 := 0) rfl rfl) rfl hl.1 rfl (Nat.le_of_ble_eq_true rfl) dX8_whatIs_7 ⟨Nat.le_of_ble_eq_true rfl, Nat.le_of_ble_eq_true rfl⟩ hP hD hS Jn.same (fun r3 σ4 H locs hP hD hS hp => ?_)
  have hP : va_P D vwCl (WM k ad g (σ4)) H := hP
  have hD : va_D A (WM k ad g (σ4)) := hD
  refine lv_iconst (v := 1) hx hb dX8_whatIs_10 (by decide) ?_
  refine lv_icmp_ne (tgt := 23) hx hb dX8_whatIs_11 (by decide) (fun c5 => ?_) (fun c5 => ?_)
  · have hp := hp.1 c5
    refine lv_iconst (v := (-1)) hx hb dX8_whatIs_23 (by decide) ?_
    exact B_24 (-1) (σ4) _ _ _  hP hD hS (lv_sub hl [] rfl) hp
  · have hp := hp.2 c5
    refine lv_aload_n hx hb dX8_whatIs_14 rfl (lv_at hl 0 rfl) ?_
    refine lv_iconst (v := 0) hx hb dX8_whatIs_15 (by decide) ?_
    refine lv_iload_n hx hb dX8_whatIs_16 rfl (lv_at hl 1 rfl) ?_
    refine fw_ciV (As := [.int 0, .int p1]) (rest := []) hC (c_X8_least l D k ad g hg hp) (cwV 2 hts (gA_V A_756 A_757 A_758 A_601 A_698) rfl rfl rfl (by decide +kernel) ⟨Nat.le_of_ble_eq_true rfl, Nat.le_of_ble_eq_true rfl⟩) (va_recv hK hP (ci := 12) (q0 := 0) rfl rfl) rfl hl.1 rfl (Nat.le_of_ble_eq_true rfl) dX8_whatIs_17 ⟨Nat.le_of_ble_eq_true rfl, Nat.le_of_ble_eq_true rfl⟩ hP hD hS Jn.same (fun r6 σ7 H locs hP hD hS hp => ?_)
    have hP : va_P D vwCl (WM k ad g (σ7)) H := hP
    have hD : va_D A (WM k ad g (σ7)) := hD
    refine lv_goto (tgt := 24) hx hb dX8_whatIs_20 (by decide) ?_
    exact B_24 r6 (σ7) _ _ _  hP hD hS (lv_sub hl [] rfl) hp
def q_X8_isContradiction (n : Nat) (c : Nat) (post : Int32 → Mem → Prop) (σ : Mem) : Prop := (q_X8_counting n c (fun (r1 : Int32) (σ2 : Mem) => (q_X8_meetAnew n c (fun (r3 : Int32) (σ4 : Mem) => (bz r3 ∧ post r3 (σ4))) 0 r1 (σ2))) (σ))
abbrev rm_X8_isContradiction : Room := { frames := 6, cells := 0, slots := 0, locals := 307 }
abbrev wq_X8_isContradiction : List Cond := Cond.code yX8_isContradiction cX8_isContradiction 1 (some .boolean) :: wALL
set_option maxHeartbeats 4000000 in
set_option maxRecDepth 100000 in
theorem c_X8_isContradiction (l : Launch) (D : va_G) (k ad g : Nat → Nat) (hg : gok g) {sz : Nat} {σ : Mem} {post : Int32 → Mem → Prop} (hp : q_X8_isContradiction (g 0) (g 2) post σ) : Met l yX8_isContradiction wq_X8_isContradiction rm_X8_isContradiction (va_Pc [.ref (ad 0)] (Pw D k (WM k ad g (σ)) sz)) (va_Qi post (fun u => Bw D (WM k ad g (σ)) sz (WM k ad g u)) (va_A (WM k ad g (σ)) sz)) 0 0 (va_A (WM k ad g (σ)) sz) := by
  refine fw_i (wf := fun u : Mem => WM k ad g u) (by decide) rfl (Nat.le_of_ble_eq_true rfl) ?_
  intro p e s m args below meth c A Q ls hC hP hD hl hret
  obtain ⟨⟨hx, hb, hml, hown, hts⟩, hG, hA⟩ := id hC
  have hK := hG.1
  have hS : va_S A s.heap s.heap [] := va_S.rf
  have hl : lv_has ls 1 [(0, .ref (ad 0))] := hl
  have hown : s.vm.findClass RX8 = some m.cls := hown
  unfold q_X8_isContradiction at hp
  refine lv_aload_n hx hb dX8_isContradiction_0 rfl (lv_at hl 0 rfl) ?_
  refine lv_iconst (v := 0) hx hb dX8_isContradiction_1 (by decide) ?_
  refine lv_aload_n hx hb dX8_isContradiction_2 rfl (lv_at hl 0 rfl) ?_
  refine fw_ciV (As := []) (rest := [.int 0, .ref (ad 0)]) hC (c_X8_counting l D k ad g hg hp) (cwV 0 hts (gA_V A_731 A_732 A_733 A_601 A_627) rfl rfl rfl (by decide +kernel) ⟨Nat.le_of_ble_eq_true rfl, Nat.le_of_ble_eq_true rfl⟩) (va_recv hK hP (ci := 12) (q0 := 0) rfl rfl) rfl hl.1 rfl (Nat.le_of_ble_eq_true rfl) dX8_isContradiction_3 ⟨Nat.le_of_ble_eq_true rfl, Nat.le_of_ble_eq_true rfl⟩ hP hD hS Jn.same (fun r1 σ2 H locs hP hD hS hp => ?_)
  have hP : va_P D vwCl (WM k ad g (σ2)) H := hP
  have hD : va_D A (WM k ad g (σ2)) := hD
  refine fw_ciV (As := [.int 0, .int r1]) (rest := []) hC (c_X8_meetAnew l D k ad g hg hp) (cwV 2 hts (gA_V A_734 A_735 A_736 A_601 A_724) rfl rfl rfl (by decide +kernel) ⟨Nat.le_of_ble_eq_true rfl, Nat.le_of_ble_eq_true rfl⟩) (va_recv hK hP (ci := 12) (q0 := 0) rfl rfl) rfl hl.1 rfl (Nat.le_of_ble_eq_true rfl) dX8_isContradiction_6 ⟨Nat.le_of_ble_eq_true rfl, Nat.le_of_ble_eq_true rfl⟩ hP hD hS Jn.same (fun r3 σ4 H locs hP hD hS hp => ?_)
  have hP : va_P D vwCl (WM k ad g (σ4)) H := hP
  have hD : va_D A (WM k ad g (σ4)) := hD
  exact hret r3 (σ4) _ _ _ _ _ _ dX8_isContradiction_9 hp.1.1 hP hD hS (Nat.le_of_ble_eq_true rfl) (Nat.le_of_ble_eq_true rfl) hp.2
def q_X8_mayBe (n : Nat) (c : Nat) (post : Int32 → Mem → Prop) (p1 : Int32) (σ : Mem) : Prop := (q_X8_counting n c (fun (r1 : Int32) (σ2 : Mem) => (q_X8_meetAnew n c (fun (r3 : Int32) (σ4 : Mem) => (q_X8_setOf n c (fun (r5 : Int32) (σ6 : Mem) => post r5 (σ6)) 0 p1 (σ4))) 0 r1 (σ2))) (σ))
abbrev rm_X8_mayBe : Room := { frames := 6, cells := 0, slots := 0, locals := 307 }
abbrev wq_X8_mayBe : List Cond := Cond.code yX8_mayBe cX8_mayBe 2 (some .int) :: wALL
set_option maxHeartbeats 4000000 in
set_option maxRecDepth 100000 in
theorem c_X8_mayBe (l : Launch) (D : va_G) (k ad g : Nat → Nat) (hg : gok g) {sz : Nat} {σ : Mem} {p1 : Int32} {post : Int32 → Mem → Prop} (hp : q_X8_mayBe (g 0) (g 2) post p1 σ) : Met l yX8_mayBe wq_X8_mayBe rm_X8_mayBe (va_Pc [.ref (ad 0), .int p1] (Pw D k (WM k ad g (σ)) sz)) (va_Qi post (fun u => Bw D (WM k ad g (σ)) sz (WM k ad g u)) (va_A (WM k ad g (σ)) sz)) 0 0 (va_A (WM k ad g (σ)) sz) := by
  refine fw_i (wf := fun u : Mem => WM k ad g u) (by decide) rfl (Nat.le_of_ble_eq_true rfl) ?_
  intro p e s m args below meth c A Q ls hC hP hD hl hret
  obtain ⟨⟨hx, hb, hml, hown, hts⟩, hG, hA⟩ := id hC
  have hK := hG.1
  have hS : va_S A s.heap s.heap [] := va_S.rf
  have hl : lv_has ls 2 [(0, .ref (ad 0)), (1, .int p1)] := hl
  have hown : s.vm.findClass RX8 = some m.cls := hown
  unfold q_X8_mayBe at hp
  refine lv_aload_n hx hb dX8_mayBe_0 rfl (lv_at hl 0 rfl) ?_
  refine lv_iconst (v := 0) hx hb dX8_mayBe_1 (by decide) ?_
  refine lv_aload_n hx hb dX8_mayBe_2 rfl (lv_at hl 0 rfl) ?_
  refine fw_ciV (As := []) (rest := [.int 0, .ref (ad 0)]) hC (c_X8_counting l D k ad g hg hp) (cwV 0 hts (gA_V A_731 A_732 A_733 A_601 A_627) rfl rfl rfl (by decide +kernel) ⟨Nat.le_of_ble_eq_true rfl, Nat.le_of_ble_eq_true rfl⟩) (va_recv hK hP (ci := 12) (q0 := 0) rfl rfl) rfl hl.1 rfl (Nat.le_of_ble_eq_true rfl) dX8_mayBe_3 ⟨Nat.le_of_ble_eq_true rfl, Nat.le_of_ble_eq_true rfl⟩ hP hD hS Jn.same (fun r1 σ2 H locs hP hD hS hp => ?_)
  have hP : va_P D vwCl (WM k ad g (σ2)) H := hP
  have hD : va_D A (WM k ad g (σ2)) := hD
  refine fw_ciV (As := [.int 0, .int r1]) (rest := []) hC (c_X8_meetAnew l D k ad g hg hp) (cwV 2 hts (gA_V A_734 A_735 A_736 A_601 A_724) rfl rfl rfl (by decide +kernel) ⟨Nat.le_of_ble_eq_true rfl, Nat.le_of_ble_eq_true rfl⟩) (va_recv hK hP (ci := 12) (q0 := 0) rfl rfl) rfl hl.1 rfl (Nat.le_of_ble_eq_true rfl) dX8_mayBe_6 ⟨Nat.le_of_ble_eq_true rfl, Nat.le_of_ble_eq_true rfl⟩ hP hD hS Jn.same (fun r3 σ4 H locs hP hD hS hp => ?_)
  have hP : va_P D vwCl (WM k ad g (σ4)) H := hP
  have hD : va_D A (WM k ad g (σ4)) := hD
  refine lv_pop hx hb dX8_mayBe_9 rfl ?_
  refine lv_aload_n hx hb dX8_mayBe_10 rfl (lv_at hl 0 rfl) ?_
  refine lv_iconst (v := 0) hx hb dX8_mayBe_11 (by decide) ?_
  refine lv_iload_n hx hb dX8_mayBe_12 rfl (lv_at hl 1 rfl) ?_
  refine fw_ciV (As := [.int 0, .int p1]) (rest := []) hC (c_X8_setOf l D k ad g hg hp) (cwV 2 hts (gA_V A_692 A_693 A_694 A_601 A_690) rfl rfl rfl (by decide +kernel) ⟨Nat.le_of_ble_eq_true rfl, Nat.le_of_ble_eq_true rfl⟩) (va_recv hK hP (ci := 12) (q0 := 0) rfl rfl) rfl hl.1 rfl (Nat.le_of_ble_eq_true rfl) dX8_mayBe_13 ⟨Nat.le_of_ble_eq_true rfl, Nat.le_of_ble_eq_true rfl⟩ hP hD hS Jn.same (fun r5 σ6 H locs hP hD hS hp => ?_)
  have hP : va_P D vwCl (WM k ad g (σ6)) H := hP
  have hD : va_D A (WM k ad g (σ6)) := hD
  exact hret r5 (σ6) _ _ _ _ _ _ dX8_mayBe_16 rfl hP hD hS (Nat.le_of_ble_eq_true rfl) (Nat.le_of_ble_eq_true rfl) hp
def q_X8_reasonFor_124 (n : Nat) (c : Nat) (post : Int32 → Mem → Prop)  (x2 : Int32) (σ : Mem) : Prop := post x2 (σ)
def q_X8_reasonFor_118 (n : Nat) (c : Nat) (post : Int32 → Mem → Prop) (kE_124 : Int32 → Mem → Prop) (kc_42 : Int32 → Int32 → Int32 → Int32 → Int32 → Mem → Prop) (x1 : Int32) (x2 : Int32) (x3 : Int32) (x4 : Int32) (x5 : Int32) (σ : Mem) : Prop := (∀ v5001 : Int32, v5001 = x5 + 1 → kc_42 x1 x2 x3 x4 v5001 (σ))
def q_X8_reasonFor_109 (n : Nat) (c : Nat) (post : Int32 → Mem → Prop) (kE_124 : Int32 → Mem → Prop) (kc_42 : Int32 → Int32 → Int32 → Int32 → Int32 → Mem → Prop) (x1 : Int32) (x2 : Int32) (x3 : Int32) (x4 : Int32) (x5 : Int32) (σ : Mem) : Prop := (∀ v4001 : Int32, v4001 = (x2 &&& (((1 : Int32) <<< (x5 &&& 31)) ^^^ (-1))) → (q_X8_reasonFor_118 n c post kE_124 kc_42) x1 v4001 x3 x4 x5 (σ))
def q_X8_reasonFor_42 (n : Nat) (c : Nat) (post : Int32 → Mem → Prop) (kE_124 : Int32 → Mem → Prop) (kc_42 : Int32 → Int32 → Int32 → Int32 → Int32 → Mem → Prop) (x1 : Int32) (x2 : Int32) (x3 : Int32) (x4 : Int32) (x5 : Int32) (σ : Mem) : Prop := (((nI n) ≤ x5 → kE_124 x2 (σ)) ∧ (¬ ((nI n) ≤ x5) → ((((x2 >>> (x5 &&& 31)) &&& 1) ≠ 0 → (q_X8_meetAnew n c (fun (r3003 : Int32) (σ3004 : Mem) => ((x3 = 0 → ((r3003 ≠ 0 → (q_X8_reasonFor_118 n c post kE_124 kc_42) x1 x2 x3 x4 x5 (σ3004)) ∧ (r3003 = 0 → (q_X8_setOf n c (fun (r3007 : Int32) (σ3008 : Mem) => ((r3007 ≠ x4 → (q_X8_reasonFor_118 n c post kE_124 kc_42) x1 x2 x3 x4 x5 (σ3008)) ∧ (r3007 = x4 → (q_X8_reasonFor_109 n c post kE_124 kc_42) x1 x2 x3 x4 x5 (σ3008)))) 0 x1 (σ3004))))) ∧ (¬ (x3 = 0) → ((r3003 = 0 → (q_X8_reasonFor_118 n c post kE_124 kc_42) x1 x2 x3 x4 x5 (σ3004)) ∧ (¬ (r3003 = 0) → (q_X8_reasonFor_109 n c post kE_124 kc_42) x1 x2 x3 x4 x5 (σ3004)))))) 0 (x2 &&& (((1 : Int32) <<< (x5 &&& 31)) ^^^ (-1))) (σ))) ∧ (((x2 >>> (x5 &&& 31)) &&& 1) = 0 → (q_X8_reasonFor_118 n c post kE_124 kc_42) x1 x2 x3 x4 x5 (σ)))))
def q_X8_reasonFor_37 (n : Nat) (c : Nat) (post : Int32 → Mem → Prop)  (s0 : Int32) (x1 : Int32) (x2 : Int32) (x3 : Int32) (σ : Mem) : Prop := (∃ n9 : Nat, lp_6 (q_X8_reasonFor_42 n c post (q_X8_reasonFor_124 n c post)) n9 x1 x2 x3 s0 0 (σ))
def q_X8_reasonFor_23 (n : Nat) (c : Nat) (post : Int32 → Mem → Prop)  (x1 : Int32) (x2 : Int32) (x3 : Int32) (σ : Mem) : Prop := ((x3 = 0 → (q_X8_setOf n c (fun (r1002 : Int32) (σ1003 : Mem) => (q_X8_reasonFor_37 n c post) r1002 x1 x2 x3 (σ1003)) 0 x1 (σ))) ∧ (¬ (x3 = 0) → (q_X8_reasonFor_37 n c post) 0 x1 x2 x3 (σ)))
def q_X8_reasonFor (n : Nat) (c : Nat) (post : Int32 → Mem → Prop) (p1 : Int32) (σ : Mem) : Prop := (q_X8_counting n c (fun (r1 : Int32) (σ2 : Mem) => (q_X8_meetAnew n c (fun (r3 : Int32) (σ4 : Mem) => ((p1 ≠ (-1) → (q_X8_reasonFor_23 n c post) p1 r1 r3 (σ4)) ∧ (p1 = (-1) → ((r3 ≠ 0 → (q_X8_reasonFor_23 n c post) p1 r1 r3 (σ4)) ∧ (r3 = 0 → post 0 (σ4)))))) 0 r1 (σ2))) (σ))
abbrev rm_X8_reasonFor : Room := { frames := 6, cells := 0, slots := 0, locals := 307 }
abbrev wq_X8_reasonFor : List Cond := Cond.code yX8_reasonFor cX8_reasonFor 7 (some .int) :: wALL
set_option maxHeartbeats 4000000 in
set_option maxRecDepth 100000 in
theorem c_X8_reasonFor (l : Launch) (D : va_G) (k ad g : Nat → Nat) (hg : gok g) {sz : Nat} {σ : Mem} {p1 : Int32} {post : Int32 → Mem → Prop} (hp : q_X8_reasonFor (g 0) (g 2) post p1 σ) : Met l yX8_reasonFor wq_X8_reasonFor rm_X8_reasonFor (va_Pc [.ref (ad 0), .int p1] (Pw D k (WM k ad g (σ)) sz)) (va_Qi post (fun u => Bw D (WM k ad g (σ)) sz (WM k ad g u)) (va_A (WM k ad g (σ)) sz)) 0 0 (va_A (WM k ad g (σ)) sz) := by
  refine fw_i (wf := fun u : Mem => WM k ad g u) (by decide) rfl (Nat.le_of_ble_eq_true rfl) ?_
  intro p e s m args below meth c A Q ls hC hP hD hl hret
  obtain ⟨⟨hx, hb, hml, hown, hts⟩, hG, hA⟩ := id hC
  have hK := hG.1
  have hS : va_S A s.heap s.heap [] := va_S.rf
  have hin_X8 : ∀ w ∈ u_ws RX8 TX8 15, w ∈ wq_X8_reasonFor := fun w h => List.mem_cons_of_mem _ (iU_X8 w h)
  have hf_19 := hts _ (List.mem_cons_of_mem _ A_584)
  have hl : lv_has ls 7 [(0, .ref (ad 0)), (1, .int p1)] := hl
  have hown : s.vm.findClass RX8 = some m.cls := hown
  unfold q_X8_reasonFor at hp
  have B_124 : ∀ (x2 : Int32) (σ : Mem) (H : Heap) (locs : List Loc) (ls : Array Slot), va_P D vwCl (WM k ad g (σ)) H → va_D A (WM k ad g (σ)) → va_S A s.heap H locs → lv_has ls 7 [(2, .int x2)] → (q_X8_reasonFor_124 (g 0) (g 2) post) x2 σ → W p l e rm_X8_reasonFor s m args below meth c H locs 0 0 Q (F0 m 124 ls []) := by
    intro x2 σ H locs ls hP hD hS hl hp
    unfold q_X8_reasonFor_124 at hp
    refine lv_iload_n hx hb dX8_reasonFor_124 rfl (lv_at hl 0 rfl) ?_
    exact hret x2 (σ) _ _ _ _ _ _ dX8_reasonFor_125 rfl hP hD hS (Nat.le_of_ble_eq_true rfl) (Nat.le_of_ble_eq_true rfl) hp
  have B_42 : ∀ (n_42 : Nat) (x1 : Int32) (x2 : Int32) (x3 : Int32) (x4 : Int32) (x5 : Int32) (σ : Mem) (H : Heap) (locs : List Loc) (ls : Array Slot), va_P D vwCl (WM k ad g (σ)) H → va_D A (WM k ad g (σ)) → va_S A s.heap H locs → lv_has ls 7 [(0, .ref (ad 0)), (1, .int x1), (2, .int x2), (3, .int x3), (4, .int x4), (5, .int x5)] → lp_6 (q_X8_reasonFor_42 (g 0) (g 2) post (q_X8_reasonFor_124 (g 0) (g 2) post)) n_42 x1 x2 x3 x4 x5 σ → W p l e rm_X8_reasonFor s m args below meth c H locs 0 0 Q (F0 m 42 ls []) := by
    intro n_42
    induction n_42 with
    | zero => intro x1 x2 x3 x4 x5 σ H locs ls hP hD hS hl hp; exact hp.elim
    | succ n_42 ih_42 =>
      have B_118 : ∀ (x1 : Int32) (x2 : Int32) (x3 : Int32) (x4 : Int32) (x5 : Int32) (σ : Mem) (H : Heap) (locs : List Loc) (ls : Array Slot), va_P D vwCl (WM k ad g (σ)) H → va_D A (WM k ad g (σ)) → va_S A s.heap H locs → lv_has ls 7 [(0, .ref (ad 0)), (1, .int x1), (2, .int x2), (3, .int x3), (4, .int x4), (5, .int x5)] → (q_X8_reasonFor_118 (g 0) (g 2) post (q_X8_reasonFor_124 (g 0) (g 2) post) (lp_6 (q_X8_reasonFor_42 (g 0) (g 2) post (q_X8_reasonFor_124 (g 0) (g 2) post)) n_42)) x1 x2 x3 x4 x5 σ → W p l e rm_X8_reasonFor s m args below meth c H locs 0 0 Q (F0 m 118 ls []) := by
        intro x1 x2 x3 x4 x5 σ H locs ls hP hD hS hl hp
        unfold q_X8_reasonFor_118 at hp
        obtain ⟨v50001, ev50001⟩ : ∃ z : Int32, z = x5 + 1 := ⟨_, rfl⟩
        have hp := hp v50001 ev50001
        refine lv_iinc (v := v50001) (lv' := [(5, .int v50001), (0, .ref (ad 0)), (1, .int x1), (2, .int x2), (3, .int x3), (4, .int x4)]) hx hb dX8_reasonFor_118 hl (k := 5) rfl (by rw [ev50001]; rfl) (by decide) rfl (fun ls hl => ?_)
        refine lv_goto (tgt := 42) hx hb dX8_reasonFor_121 (by decide) ?_
        exact ih_42 x1 x2 x3 x4 v50001 (σ) _ _ _  hP hD hS (lv_sub hl [1, 2, 3, 4, 5, 0] rfl) hp
      have B_109 : ∀ (x1 : Int32) (x2 : Int32) (x3 : Int32) (x4 : Int32) (x5 : Int32) (σ : Mem) (H : Heap) (locs : List Loc) (ls : Array Slot), va_P D vwCl (WM k ad g (σ)) H → va_D A (WM k ad g (σ)) → va_S A s.heap H locs → lv_has ls 7 [(0, .ref (ad 0)), (1, .int x1), (2, .int x2), (3, .int x3), (4, .int x4), (5, .int x5)] → (q_X8_reasonFor_109 (g 0) (g 2) post (q_X8_reasonFor_124 (g 0) (g 2) post) (lp_6 (q_X8_reasonFor_42 (g 0) (g 2) post (q_X8_reasonFor_124 (g 0) (g 2) post)) n_42)) x1 x2 x3 x4 x5 σ → W p l e rm_X8_reasonFor s m args below meth c H locs 0 0 Q (F0 m 109 ls []) := by
        intro x1 x2 x3 x4 x5 σ H locs ls hP hD hS hl hp
        unfold q_X8_reasonFor_109 at hp
        refine lv_iload_n hx hb dX8_reasonFor_109 rfl (lv_at hl 2 rfl) ?_
        refine lv_iconst (v := 1) hx hb dX8_reasonFor_110 (by decide) ?_
        refine lv_iload hx hb dX8_reasonFor_111 (lv_at hl 5 rfl) ?_
        refine lv_ishl hx hb dX8_reasonFor_113 ?_
        refine lv_iconst (v := (-1)) hx hb dX8_reasonFor_114 (by decide) ?_
        refine lv_ixor hx hb dX8_reasonFor_115 ?_
        refine lv_iand hx hb dX8_reasonFor_116 ?_
        refine lv_topi (fun v40001 ev40001 => ?_)
        have hp := hp v40001 ev40001
        refine lv_istore_n (lv' := [(2, .int v40001), (0, .ref (ad 0)), (1, .int x1), (3, .int x3), (4, .int x4), (5, .int x5)]) hx hb dX8_reasonFor_117 rfl hl (by decide) rfl (fun ls hl => ?_)
        exact B_118 x1 v40001 x3 x4 x5 (σ) _ _ _  hP hD hS (lv_sub hl [1, 2, 0, 3, 4, 5] rfl) hp
      intro x1 x2 x3 x4 x5 σ H locs ls hP hD hS hl hp
      have hp : q_X8_reasonFor_42 (g 0) (g 2) post (q_X8_reasonFor_124 (g 0) (g 2) post) (lp_6 (q_X8_reasonFor_42 (g 0) (g 2) post (q_X8_reasonFor_124 (g 0) (g 2) post)) n_42) x1 x2 x3 x4 x5 σ := hp
      unfold q_X8_reasonFor_42 at hp
      refine lv_iload hx hb dX8_reasonFor_42 (lv_at hl 5 rfl) ?_
      refine lv_aload_n hx hb dX8_reasonFor_44 rfl (lv_at hl 0 rfl) ?_
      refine va_get (D := D) (ci := 12) (C := RX8) (T := TX8) (N := 15) hx hb hts hin_X8 hown hK hP 0 rfl rfl 4 (by decide) hf_19 (fun _ h9 => h9) rfl dX8_reasonFor_45 ?_
      refine wm_size_line (rest := [.int x5]) hC (gA_V (a := Cond.code yX8_reasonFor cX8_reasonFor 7 (some .int)) A_605 A_606 A_607 A_583 A_602) hl.1 rfl (Nat.le_of_ble_eq_true rfl) (Nat.le_of_ble_eq_true rfl) (Nat.le_of_ble_eq_true rfl) dX8_reasonFor_48 ⟨Nat.le_of_ble_eq_true rfl, Nat.le_of_ble_eq_true rfl⟩ hP hD hS (fun H locs hP hD hS => ?_)
      refine lv_icmp_ge (tgt := 124) hx hb dX8_reasonFor_51 (by decide) (fun c30001 => ?_) (fun c30001 => ?_)
      · have hp := hp.1 c30001
        exact B_124 x2 (σ) _ _ _  hP hD hS (lv_sub hl [2] rfl) hp
      · have hp := hp.2 c30001
        refine lv_iload_n hx hb dX8_reasonFor_54 rfl (lv_at hl 2 rfl) ?_
        refine lv_iload hx hb dX8_reasonFor_55 (lv_at hl 5 rfl) ?_
        refine lv_ishr hx hb dX8_reasonFor_57 ?_
        refine lv_iconst (v := 1) hx hb dX8_reasonFor_58 (by decide) ?_
        refine lv_iand hx hb dX8_reasonFor_59 ?_
        refine lv_if_ne (tgt := 66) hx hb dX8_reasonFor_60 (by decide) (fun c30002 => ?_) (fun c30002 => ?_)
        · have hp := hp.1 c30002
          refine lv_aload_n hx hb dX8_reasonFor_66 rfl (lv_at hl 0 rfl) ?_
          refine lv_iconst (v := 0) hx hb dX8_reasonFor_67 (by decide) ?_
          refine lv_iload_n hx hb dX8_reasonFor_68 rfl (lv_at hl 2 rfl) ?_
          refine lv_iconst (v := 1) hx hb dX8_reasonFor_69 (by decide) ?_
          refine lv_iload hx hb dX8_reasonFor_70 (lv_at hl 5 rfl) ?_
          refine lv_ishl hx hb dX8_reasonFor_72 ?_
          refine lv_iconst (v := (-1)) hx hb dX8_reasonFor_73 (by decide) ?_
          refine lv_ixor hx hb dX8_reasonFor_74 ?_
          refine lv_iand hx hb dX8_reasonFor_75 ?_
          refine fw_ciV (As := [.int 0, .int (x2 &&& (((1 : Int32) <<< (x5 &&& 31)) ^^^ (-1)))]) (rest := []) hC (c_X8_meetAnew l D k ad g hg hp) (cwV 2 hts (gA_V A_734 A_735 A_736 A_601 A_724) rfl rfl rfl (by decide +kernel) ⟨Nat.le_of_ble_eq_true rfl, Nat.le_of_ble_eq_true rfl⟩) (va_recv hK hP (ci := 12) (q0 := 0) rfl rfl) rfl hl.1 rfl (Nat.le_of_ble_eq_true rfl) dX8_reasonFor_76 ⟨Nat.le_of_ble_eq_true rfl, Nat.le_of_ble_eq_true rfl⟩ hP hD hS Jn.same (fun r30003 σ30004 H locs hP hD hS hp => ?_)
          have hP : va_P D vwCl (WM k ad g (σ30004)) H := hP
          have hD : va_D A (WM k ad g (σ30004)) := hD
          refine lv_istore (lv' := [(6, .int r30003), (0, .ref (ad 0)), (1, .int x1), (2, .int x2), (3, .int x3), (4, .int x4), (5, .int x5)]) hx hb dX8_reasonFor_79 hl (by decide) rfl (fun ls hl => ?_)
          refine lv_iload_n hx hb dX8_reasonFor_81 rfl (lv_at hl 4 rfl) ?_
          refine lv_if_eq (tgt := 93) hx hb dX8_reasonFor_82 (by decide) (fun c30005 => ?_) (fun c30005 => ?_)
          · have hp := hp.1 c30005
            refine lv_iload hx hb dX8_reasonFor_93 (lv_at hl 0 rfl) ?_
            refine lv_if_ne (tgt := 118) hx hb dX8_reasonFor_95 (by decide) (fun c30006 => ?_) (fun c30006 => ?_)
            · have hp := hp.1 c30006
              exact B_118 x1 x2 x3 x4 x5 (σ30004) _ _ _  hP hD hS (lv_sub hl [1, 2, 3, 4, 5, 6] rfl) hp
            · have hp := hp.2 c30006
              refine lv_aload_n hx hb dX8_reasonFor_98 rfl (lv_at hl 1 rfl) ?_
              refine lv_iconst (v := 0) hx hb dX8_reasonFor_99 (by decide) ?_
              refine lv_iload_n hx hb dX8_reasonFor_100 rfl (lv_at hl 2 rfl) ?_
              refine fw_ciV (As := [.int 0, .int x1]) (rest := []) hC (c_X8_setOf l D k ad g hg hp) (cwV 2 hts (gA_V A_692 A_693 A_694 A_601 A_690) rfl rfl rfl (by decide +kernel) ⟨Nat.le_of_ble_eq_true rfl, Nat.le_of_ble_eq_true rfl⟩) (va_recv hK hP (ci := 12) (q0 := 0) rfl rfl) rfl hl.1 rfl (Nat.le_of_ble_eq_true rfl) dX8_reasonFor_101 ⟨Nat.le_of_ble_eq_true rfl, Nat.le_of_ble_eq_true rfl⟩ hP hD hS Jn.same (fun r30007 σ30008 H locs hP hD hS hp => ?_)
              have hP : va_P D vwCl (WM k ad g (σ30008)) H := hP
              have hD : va_D A (WM k ad g (σ30008)) := hD
              refine lv_iload hx hb dX8_reasonFor_104 (lv_at hl 5 rfl) ?_
              refine lv_icmp_ne (tgt := 118) hx hb dX8_reasonFor_106 (by decide) (fun c30009 => ?_) (fun c30009 => ?_)
              · have hp := hp.1 c30009
                exact B_118 x1 x2 x3 x4 x5 (σ30008) _ _ _  hP hD hS (lv_sub hl [1, 2, 3, 4, 5, 6] rfl) hp
              · have hp := hp.2 c30009
                exact B_109 x1 x2 x3 x4 x5 (σ30008) _ _ _  hP hD hS (lv_sub hl [1, 2, 3, 4, 5, 6] rfl) hp
          · have hp := hp.2 c30005
            refine lv_iload hx hb dX8_reasonFor_85 (lv_at hl 0 rfl) ?_
            refine lv_if_eq (tgt := 118) hx hb dX8_reasonFor_87 (by decide) (fun c30010 => ?_) (fun c30010 => ?_)
            · have hp := hp.1 c30010
              exact B_118 x1 x2 x3 x4 x5 (σ30004) _ _ _  hP hD hS (lv_sub hl [1, 2, 3, 4, 5, 6] rfl) hp
            · have hp := hp.2 c30010
              refine lv_goto (tgt := 109) hx hb dX8_reasonFor_90 (by decide) ?_
              exact B_109 x1 x2 x3 x4 x5 (σ30004) _ _ _  hP hD hS (lv_sub hl [1, 2, 3, 4, 5, 6] rfl) hp
        · have hp := hp.2 c30002
          refine lv_goto (tgt := 118) hx hb dX8_reasonFor_63 (by decide) ?_
          exact B_118 x1 x2 x3 x4 x5 (σ) _ _ _  hP hD hS (lv_sub hl [0, 1, 2, 3, 4, 5] rfl) hp
  have B_37 : ∀ (s0 : Int32) (x1 : Int32) (x2 : Int32) (x3 : Int32) (σ : Mem) (H : Heap) (locs : List Loc) (ls : Array Slot), va_P D vwCl (WM k ad g (σ)) H → va_D A (WM k ad g (σ)) → va_S A s.heap H locs → lv_has ls 7 [(0, .ref (ad 0)), (1, .int x1), (2, .int x2), (3, .int x3)] → (q_X8_reasonFor_37 (g 0) (g 2) post) s0 x1 x2 x3 σ → W p l e rm_X8_reasonFor s m args below meth c H locs 0 0 Q (F0 m 37 ls [.int s0]) := by
    intro s0 x1 x2 x3 σ H locs ls hP hD hS hl hp
    unfold q_X8_reasonFor_37 at hp
    refine lv_istore (lv' := [(4, .int s0), (0, .ref (ad 0)), (1, .int x1), (2, .int x2), (3, .int x3)]) hx hb dX8_reasonFor_37 hl (by decide) rfl (fun ls hl => ?_)
    refine lv_iconst (v := 0) hx hb dX8_reasonFor_39 (by decide) ?_
    refine lv_istore (lv' := [(5, .int 0), (4, .int s0), (0, .ref (ad 0)), (1, .int x1), (2, .int x2), (3, .int x3)]) hx hb dX8_reasonFor_40 hl (by decide) rfl (fun ls hl => ?_)
    obtain ⟨n9, hp⟩ := hp
    exact B_42 n9 x1 x2 x3 s0 0 (σ) _ _ _  hP hD hS (lv_sub hl [2, 3, 4, 5, 1, 0] rfl) hp
  have B_23 : ∀ (x1 : Int32) (x2 : Int32) (x3 : Int32) (σ : Mem) (H : Heap) (locs : List Loc) (ls : Array Slot), va_P D vwCl (WM k ad g (σ)) H → va_D A (WM k ad g (σ)) → va_S A s.heap H locs → lv_has ls 7 [(0, .ref (ad 0)), (1, .int x1), (2, .int x2), (3, .int x3)] → (q_X8_reasonFor_23 (g 0) (g 2) post) x1 x2 x3 σ → W p l e rm_X8_reasonFor s m args below meth c H locs 0 0 Q (F0 m 23 ls []) := by
    intro x1 x2 x3 σ H locs ls hP hD hS hl hp
    unfold q_X8_reasonFor_23 at hp
    refine lv_iload_n hx hb dX8_reasonFor_23 rfl (lv_at hl 3 rfl) ?_
    refine lv_if_eq (tgt := 31) hx hb dX8_reasonFor_24 (by decide) (fun c10001 => ?_) (fun c10001 => ?_)
    · have hp := hp.1 c10001
      refine lv_aload_n hx hb dX8_reasonFor_31 rfl (lv_at hl 0 rfl) ?_
      refine lv_iconst (v := 0) hx hb dX8_reasonFor_32 (by decide) ?_
      refine lv_iload_n hx hb dX8_reasonFor_33 rfl (lv_at hl 1 rfl) ?_
      refine fw_ciV (As := [.int 0, .int x1]) (rest := []) hC (c_X8_setOf l D k ad g hg hp) (cwV 2 hts (gA_V A_692 A_693 A_694 A_601 A_690) rfl rfl rfl (by decide +kernel) ⟨Nat.le_of_ble_eq_true rfl, Nat.le_of_ble_eq_true rfl⟩) (va_recv hK hP (ci := 12) (q0 := 0) rfl rfl) rfl hl.1 rfl (Nat.le_of_ble_eq_true rfl) dX8_reasonFor_34 ⟨Nat.le_of_ble_eq_true rfl, Nat.le_of_ble_eq_true rfl⟩ hP hD hS Jn.same (fun r10002 σ10003 H locs hP hD hS hp => ?_)
      have hP : va_P D vwCl (WM k ad g (σ10003)) H := hP
      have hD : va_D A (WM k ad g (σ10003)) := hD
      exact B_37 r10002 x1 x2 x3 (σ10003) _ _ _  hP hD hS (lv_sub hl [0, 1, 2, 3] rfl) hp
    · have hp := hp.2 c10001
      refine lv_iconst (v := 0) hx hb dX8_reasonFor_27 (by decide) ?_
      refine lv_goto (tgt := 37) hx hb dX8_reasonFor_28 (by decide) ?_
      exact B_37 0 x1 x2 x3 (σ) _ _ _  hP hD hS (lv_sub hl [0, 1, 2, 3] rfl) hp
  refine lv_aload_n hx hb dX8_reasonFor_0 rfl (lv_at hl 0 rfl) ?_
  refine fw_ciV (As := []) (rest := []) hC (c_X8_counting l D k ad g hg hp) (cwV 0 hts (gA_V A_731 A_732 A_733 A_601 A_627) rfl rfl rfl (by decide +kernel) ⟨Nat.le_of_ble_eq_true rfl, Nat.le_of_ble_eq_true rfl⟩) (va_recv hK hP (ci := 12) (q0 := 0) rfl rfl) rfl hl.1 rfl (Nat.le_of_ble_eq_true rfl) dX8_reasonFor_1 ⟨Nat.le_of_ble_eq_true rfl, Nat.le_of_ble_eq_true rfl⟩ hP hD hS Jn.same (fun r1 σ2 H locs hP hD hS hp => ?_)
  have hP : va_P D vwCl (WM k ad g (σ2)) H := hP
  have hD : va_D A (WM k ad g (σ2)) := hD
  refine lv_istore_n (lv' := [(2, .int r1), (0, .ref (ad 0)), (1, .int p1)]) hx hb dX8_reasonFor_4 rfl hl (by decide) rfl (fun ls hl => ?_)
  refine lv_aload_n hx hb dX8_reasonFor_5 rfl (lv_at hl 1 rfl) ?_
  refine lv_iconst (v := 0) hx hb dX8_reasonFor_6 (by decide) ?_
  refine lv_iload_n hx hb dX8_reasonFor_7 rfl (lv_at hl 0 rfl) ?_
  refine fw_ciV (As := [.int 0, .int r1]) (rest := []) hC (c_X8_meetAnew l D k ad g hg hp) (cwV 2 hts (gA_V A_734 A_735 A_736 A_601 A_724) rfl rfl rfl (by decide +kernel) ⟨Nat.le_of_ble_eq_true rfl, Nat.le_of_ble_eq_true rfl⟩) (va_recv hK hP (ci := 12) (q0 := 0) rfl rfl) rfl hl.1 rfl (Nat.le_of_ble_eq_true rfl) dX8_reasonFor_8 ⟨Nat.le_of_ble_eq_true rfl, Nat.le_of_ble_eq_true rfl⟩ hP hD hS Jn.same (fun r3 σ4 H locs hP hD hS hp => ?_)
  have hP : va_P D vwCl (WM k ad g (σ4)) H := hP
  have hD : va_D A (WM k ad g (σ4)) := hD
  refine lv_istore_n (lv' := [(3, .int r3), (2, .int r1), (0, .ref (ad 0)), (1, .int p1)]) hx hb dX8_reasonFor_11 rfl hl (by decide) rfl (fun ls hl => ?_)
  refine lv_iload_n hx hb dX8_reasonFor_12 rfl (lv_at hl 3 rfl) ?_
  refine lv_iconst (v := (-1)) hx hb dX8_reasonFor_13 (by decide) ?_
  refine lv_icmp_ne (tgt := 23) hx hb dX8_reasonFor_14 (by decide) (fun c5 => ?_) (fun c5 => ?_)
  · have hp := hp.1 c5
    exact B_23 p1 r1 r3 (σ4) _ _ _  hP hD hS (lv_sub hl [2, 3, 1, 0] rfl) hp
  · have hp := hp.2 c5
    refine lv_iload_n hx hb dX8_reasonFor_17 rfl (lv_at hl 0 rfl) ?_
    refine lv_if_ne (tgt := 23) hx hb dX8_reasonFor_18 (by decide) (fun c6 => ?_) (fun c6 => ?_)
    · have hp := hp.1 c6
      exact B_23 p1 r1 r3 (σ4) _ _ _  hP hD hS (lv_sub hl [2, 3, 1, 0] rfl) hp
    · have hp := hp.2 c6
      refine lv_iconst (v := 0) hx hb dX8_reasonFor_21 (by decide) ?_
      exact hret 0 (σ4) _ _ _ _ _ _ dX8_reasonFor_22 rfl hP hD hS (Nat.le_of_ble_eq_true rfl) (Nat.le_of_ble_eq_true rfl) hp
