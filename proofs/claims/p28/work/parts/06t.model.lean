def q_X8_houseNow_219 (n : Nat) (c : Nat) (post : Int32 → Mem → Prop)  (s0 : Int32) (σ : Mem) : Prop := post s0 (σ)
def q_X8_houseNow_202 (n : Nat) (c : Nat) (post : Int32 → Mem → Prop)  (x2 : Int32) (σ : Mem) : Prop := post x2 (σ)
def q_X8_houseNow_194 (n : Nat) (c : Nat) (post : Int32 → Mem → Prop) (kE_202 : Int32 → Mem → Prop) (kc_174 : Int32 → Int32 → Mem → Prop) (s0 : Int32) (s1 : Int32) (x3 : Int32) (σ : Mem) : Prop := (∀ v9001 : Int32, v9001 = (s1 + s0) → (∀ v9002 : Int32, v9002 = x3 + 1 → kc_174 v9001 v9002 (σ)))
def q_X8_houseNow_174 (n : Nat) (c : Nat) (post : Int32 → Mem → Prop) (kE_202 : Int32 → Mem → Prop) (kc_174 : Int32 → Int32 → Mem → Prop) (x2 : Int32) (x3 : Int32) (σ : Mem) : Prop := ((6 ≤ x3 → kE_202 x2 (σ)) ∧ (¬ (6 ≤ x3) → (q_X8_drifting n c (fun (r8002 : Int32) (σ8003 : Mem) => ((r8002 = 0 → (q_X8_houseNow_194 n c post kE_202 kc_174) 0 x2 x3 (σ8003)) ∧ (¬ (r8002 = 0) → (q_X8_houseNow_194 n c post kE_202 kc_174) 1 x2 x3 (σ8003)))) x3 (σ))))
def q_X8_houseNow_162 (n : Nat) (c : Nat) (post : Int32 → Mem → Prop)  (x2 : Int32) (σ : Mem) : Prop := post x2 (σ)
def q_X8_houseNow_154 (n : Nat) (c : Nat) (post : Int32 → Mem → Prop) (kE_162 : Int32 → Mem → Prop) (kc_130 : Int32 → Int32 → Mem → Prop) (s0 : Int32) (s1 : Int32) (x3 : Int32) (σ : Mem) : Prop := (∀ v6001 : Int32, v6001 = (s1 + s0) → (∀ v6002 : Int32, v6002 = x3 + 1 → kc_130 v6001 v6002 (σ)))
def q_X8_houseNow_130 (n : Nat) (c : Nat) (post : Int32 → Mem → Prop) (kE_162 : Int32 → Mem → Prop) (kc_130 : Int32 → Int32 → Mem → Prop) (x2 : Int32) (x3 : Int32) (σ : Mem) : Prop := ((((σ) 0 3) ≤ x3 → kE_162 x2 (σ)) ∧ (¬ (((σ) 0 3) ≤ x3) → (q_X8_count n c (fun (r5002 : Int32) (σ5003 : Mem) => ((r5002 ≠ 1 → (q_X8_houseNow_154 n c post kE_162 kc_130) 0 x2 x3 (σ5003)) ∧ (r5002 = 1 → (q_X8_houseNow_154 n c post kE_162 kc_130) 1 x2 x3 (σ5003)))) 0 x3 (σ))))
def q_X8_houseNow_123 (n : Nat) (c : Nat) (post : Int32 → Mem → Prop)  (s0 : Int32) (σ : Mem) : Prop := post s0 (σ)
def q_X8_houseNow_109 (n : Nat) (c : Nat) (post : Int32 → Mem → Prop)  (x2 : Int32) (σ : Mem) : Prop := post x2 (σ)
def q_X8_houseNow_104 (n : Nat) (c : Nat) (post : Int32 → Mem → Prop) (kE_109 : Int32 → Mem → Prop) (kc_69 : Int32 → Nat → Int32 → Int32 → Int32 → Mem → Prop) (s0 : Int32) (s1 : Int32) (wi : Nat) (w0 : Int32) (w1 : Int32) (w2 : Int32) (σ : Mem) : Prop := (∀ v2001 : Int32, v2001 = (s1 + s0) → kc_69 v2001 wi w0 w1 w2 (σ))
def q_X8_houseNow_69 (n : Nat) (c : Nat) (post : Int32 → Mem → Prop) (kE_109 : Int32 → Mem → Prop) (kc_69 : Int32 → Nat → Int32 → Int32 → Int32 → Mem → Prop) (x2 : Int32) (wi : Nat) (w0 : Int32) (w1 : Int32) (w2 : Int32) (σ : Mem) : Prop := (∃ j1001 : Nat, (j1001 ≤ n ∧ w0 = nI j1001) ∧ (∀ r1002 : Int32, r1002 = (if j1001 < n then 1 else 0) → ((r1002 = 0 → kE_109 x2 (σ)) ∧ (¬ (r1002 = 0) → (∃ j1004 : Nat, (j1004 < n ∧ w0 = nI j1004 ∧ w2 = (σ) 3 0) ∧ (∀ z1005 : Int32, z1005 = nI (j1004 + 1) → ∀ z1006 : Int32, z1006 = nI j1004 → (q_X8_counts n c j1004 (fun (r1007 : Int32) (σ1008 : Mem) => ((r1007 = 0 → (q_X8_houseNow_104 n c post kE_109 kc_69) 0 x2 wi z1005 z1006 w2 (σ1008)) ∧ (¬ (r1007 = 0) → (q_X8_houseNow_104 n c post kE_109 kc_69) 1 x2 wi z1005 z1006 w2 (σ1008)))) (σ))))))))
def q_X8_houseNow (n : Nat) (c : Nat) (post : Int32 → Mem → Prop) (p1 : Int32) (σ : Mem) : Prop := ((sw_out p1 8 → post ((σ) 0 8) (σ)) ∧ (p1 = nI 0 → post ((σ) 0 3) (σ)) ∧ (p1 = nI 1 → post (nI n) (σ)) ∧ (p1 = nI 2 → (∀ i3 : Nat, (∃ n9 : Nat, lp_6 (q_X8_houseNow_69 n c post (q_X8_houseNow_109 n c post)) n9 0 i3 0 (-1) ((σ) 3 0) (σ)))) ∧ (p1 = nI 3 → (q_X8_isContradiction n c (fun (r4 : Int32) (σ5 : Mem) => ((r4 = 0 → (q_X8_houseNow_123 n c post) 0 (σ5)) ∧ (¬ (r4 = 0) → (q_X8_houseNow_123 n c post) 1 (σ5)))) (σ))) ∧ (p1 = nI 4 → (q_X8_settle n c (fun (σ8 : Mem) => (∃ n9 : Nat, lp_3 (q_X8_houseNow_130 n c post (q_X8_houseNow_162 n c post)) n9 0 0 (σ8))) (σ))) ∧ (p1 = nI 5 → post (nI c) (σ)) ∧ (p1 = nI 6 → (∃ n9 : Nat, lp_3 (q_X8_houseNow_174 n c post (q_X8_houseNow_202 n c post)) n9 0 0 (σ))) ∧ (p1 = nI 7 → (q_X8_isChosen n c (fun (r9 : Int32) (σ10 : Mem) => ((r9 = 0 → (q_X8_houseNow_219 n c post) (-1) (σ10)) ∧ (¬ (r9 = 0) → (q_X8_houseNow_219 n c post) ((σ10) 0 12) (σ10)))) (σ))))
abbrev rm_X8_houseNow : Room := { frames := 18, cells := 1, slots := 4, locals := 885 }
abbrev wq_X8_houseNow : List Cond := Cond.code yX8_houseNow cX8_houseNow 5 (some .int) :: wALL
set_option maxHeartbeats 4000000 in
set_option maxRecDepth 100000 in
theorem c_X8_houseNow (l : Launch) (D : va_G) (k ad g : Nat → Nat) (hg : gok g) {sz : Nat} {σ : Mem} {p1 : Int32} {post : Int32 → Mem → Prop} (hp : q_X8_houseNow (g 0) (g 2) post p1 σ) : Met l yX8_houseNow wq_X8_houseNow rm_X8_houseNow (va_Pc [.ref (ad 0), .int p1] (Pw D k (WM k ad g (σ)) sz)) (va_Qi post (fun u => Bw D (WM k ad g (σ)) sz (WM k ad g u)) (va_A (WM k ad g (σ)) sz)) 1 4 (va_A (WM k ad g (σ)) sz) := by
  refine fw_i (wf := fun u : Mem => WM k ad g u) (by decide) rfl (Nat.le_of_ble_eq_true rfl) ?_
  intro p e s m args below meth c A Q ls hC hP hD hl hret
  obtain ⟨⟨hx, hb, hml, hown, hts⟩, hG, hA⟩ := id hC
  have hK := hG.1
  have hS : va_S A s.heap s.heap [] := va_S.rf
  have hin_X8 : ∀ w ∈ u_ws RX8 TX8 15, w ∈ wq_X8_houseNow := fun w h => List.mem_cons_of_mem _ (iU_X8 w h)
  have hf_210 := hts _ (List.mem_cons_of_mem _ A_797)
  have hf_45 := hts _ (List.mem_cons_of_mem _ A_598)
  have hf_19 := hts _ (List.mem_cons_of_mem _ A_584)
  have hf_23 := hts _ (List.mem_cons_of_mem _ A_585)
  have hf_183 := hts _ (List.mem_cons_of_mem _ A_764)
  have hl : lv_has ls 5 [(0, .ref (ad 0)), (1, .int p1)] := hl
  have hown : s.vm.findClass RX8 = some m.cls := hown
  unfold q_X8_houseNow at hp
  have B_219 : ∀ (s0 : Int32) (σ : Mem) (H : Heap) (locs : List Loc) (ls : Array Slot), va_P D vwCl (WM k ad g (σ)) H → va_D A (WM k ad g (σ)) → va_S A s.heap H locs → lv_has ls 5 [] → (q_X8_houseNow_219 (g 0) (g 2) post) s0 σ → W p l e rm_X8_houseNow s m args below meth c H locs 0 0 Q (F0 m 219 ls [.int s0]) := by
    intro s0 σ H locs ls hP hD hS hl hp
    unfold q_X8_houseNow_219 at hp
    exact hret s0 (σ) _ _ _ _ _ _ dX8_houseNow_219 rfl hP hD hS (Nat.le_of_ble_eq_true rfl) (Nat.le_of_ble_eq_true rfl) hp
  have B_202 : ∀ (x2 : Int32) (σ : Mem) (H : Heap) (locs : List Loc) (ls : Array Slot), va_P D vwCl (WM k ad g (σ)) H → va_D A (WM k ad g (σ)) → va_S A s.heap H locs → lv_has ls 5 [(2, .int x2)] → (q_X8_houseNow_202 (g 0) (g 2) post) x2 σ → W p l e rm_X8_houseNow s m args below meth c H locs 0 0 Q (F0 m 202 ls []) := by
    intro x2 σ H locs ls hP hD hS hl hp
    unfold q_X8_houseNow_202 at hp
    refine lv_iload_n hx hb dX8_houseNow_202 rfl (lv_at hl 0 rfl) ?_
    exact hret x2 (σ) _ _ _ _ _ _ dX8_houseNow_203 rfl hP hD hS (Nat.le_of_ble_eq_true rfl) (Nat.le_of_ble_eq_true rfl) hp
  have B_174 : ∀ (n_174 : Nat) (x2 : Int32) (x3 : Int32) (σ : Mem) (H : Heap) (locs : List Loc) (ls : Array Slot), va_P D vwCl (WM k ad g (σ)) H → va_D A (WM k ad g (σ)) → va_S A s.heap H locs → lv_has ls 5 [(0, .ref (ad 0)), (2, .int x2), (3, .int x3)] → lp_3 (q_X8_houseNow_174 (g 0) (g 2) post (q_X8_houseNow_202 (g 0) (g 2) post)) n_174 x2 x3 σ → W p l e rm_X8_houseNow s m args below meth c H locs 0 0 Q (F0 m 174 ls []) := by
    intro n_174
    induction n_174 with
    | zero => intro x2 x3 σ H locs ls hP hD hS hl hp; exact hp.elim
    | succ n_174 ih_174 =>
      have B_194 : ∀ (s0 : Int32) (s1 : Int32) (x3 : Int32) (σ : Mem) (H : Heap) (locs : List Loc) (ls : Array Slot), va_P D vwCl (WM k ad g (σ)) H → va_D A (WM k ad g (σ)) → va_S A s.heap H locs → lv_has ls 5 [(0, .ref (ad 0)), (3, .int x3)] → (q_X8_houseNow_194 (g 0) (g 2) post (q_X8_houseNow_202 (g 0) (g 2) post) (lp_3 (q_X8_houseNow_174 (g 0) (g 2) post (q_X8_houseNow_202 (g 0) (g 2) post)) n_174)) s0 s1 x3 σ → W p l e rm_X8_houseNow s m args below meth c H locs 0 0 Q (F0 m 194 ls [.int s0, .int s1]) := by
        intro s0 s1 x3 σ H locs ls hP hD hS hl hp
        unfold q_X8_houseNow_194 at hp
        refine lv_iadd hx hb dX8_houseNow_194 ?_
        refine lv_topi (fun v90001 ev90001 => ?_)
        have hp := hp v90001 ev90001
        refine lv_istore_n (lv' := [(2, .int v90001), (0, .ref (ad 0)), (3, .int x3)]) hx hb dX8_houseNow_195 rfl hl (by decide) rfl (fun ls hl => ?_)
        obtain ⟨v90002, ev90002⟩ : ∃ z : Int32, z = x3 + 1 := ⟨_, rfl⟩
        have hp := hp v90002 ev90002
        refine lv_iinc (v := v90002) (lv' := [(3, .int v90002), (2, .int v90001), (0, .ref (ad 0))]) hx hb dX8_houseNow_196 hl (k := 2) rfl (by rw [ev90002]; rfl) (by decide) rfl (fun ls hl => ?_)
        refine lv_goto (tgt := 174) hx hb dX8_houseNow_199 (by decide) ?_
        exact ih_174 v90001 v90002 (σ) _ _ _  hP hD hS (lv_sub hl [2, 1, 0] rfl) hp
      intro x2 x3 σ H locs ls hP hD hS hl hp
      have hp : q_X8_houseNow_174 (g 0) (g 2) post (q_X8_houseNow_202 (g 0) (g 2) post) (lp_3 (q_X8_houseNow_174 (g 0) (g 2) post (q_X8_houseNow_202 (g 0) (g 2) post)) n_174) x2 x3 σ := hp
      unfold q_X8_houseNow_174 at hp
      refine lv_iload_n hx hb dX8_houseNow_174 rfl (lv_at hl 2 rfl) ?_
      refine lv_bipush (v := 6) hx hb dX8_houseNow_175 (by decide) ?_
      refine lv_icmp_ge (tgt := 202) hx hb dX8_houseNow_177 (by decide) (fun c80001 => ?_) (fun c80001 => ?_)
      · have hp := hp.1 c80001
        exact B_202 x2 (σ) _ _ _  hP hD hS (lv_sub hl [1] rfl) hp
      · have hp := hp.2 c80001
        refine lv_iload_n hx hb dX8_houseNow_180 rfl (lv_at hl 1 rfl) ?_
        refine lv_aload_n hx hb dX8_houseNow_181 rfl (lv_at hl 0 rfl) ?_
        refine lv_iload_n hx hb dX8_houseNow_182 rfl (lv_at hl 2 rfl) ?_
        refine fw_ciV (As := [.int x3]) (rest := [.int x2]) hC (c_X8_drifting l D k ad g hg hp) (cwV 1 hts (gA_V A_788 A_789 A_790 A_601 A_787) rfl rfl rfl (by decide +kernel) ⟨Nat.le_of_ble_eq_true rfl, Nat.le_of_ble_eq_true rfl⟩) (va_recv hK hP (ci := 12) (q0 := 0) rfl rfl) rfl hl.1 rfl (Nat.le_of_ble_eq_true rfl) dX8_houseNow_183 ⟨Nat.le_of_ble_eq_true rfl, Nat.le_of_ble_eq_true rfl⟩ hP hD hS Jn.same (fun r80002 σ80003 H locs hP hD hS hp => ?_)
        have hP : va_P D vwCl (WM k ad g (σ80003)) H := hP
        have hD : va_D A (WM k ad g (σ80003)) := hD
        refine lv_if_eq (tgt := 193) hx hb dX8_houseNow_186 (by decide) (fun c80004 => ?_) (fun c80004 => ?_)
        · have hp := hp.1 c80004
          refine lv_iconst (v := 0) hx hb dX8_houseNow_193 (by decide) ?_
          exact B_194 0 x2 x3 (σ80003) _ _ _  hP hD hS (lv_sub hl [0, 2] rfl) hp
        · have hp := hp.2 c80004
          refine lv_iconst (v := 1) hx hb dX8_houseNow_189 (by decide) ?_
          refine lv_goto (tgt := 194) hx hb dX8_houseNow_190 (by decide) ?_
          exact B_194 1 x2 x3 (σ80003) _ _ _  hP hD hS (lv_sub hl [0, 2] rfl) hp
  have B_162 : ∀ (x2 : Int32) (σ : Mem) (H : Heap) (locs : List Loc) (ls : Array Slot), va_P D vwCl (WM k ad g (σ)) H → va_D A (WM k ad g (σ)) → va_S A s.heap H locs → lv_has ls 5 [(2, .int x2)] → (q_X8_houseNow_162 (g 0) (g 2) post) x2 σ → W p l e rm_X8_houseNow s m args below meth c H locs 0 0 Q (F0 m 162 ls []) := by
    intro x2 σ H locs ls hP hD hS hl hp
    unfold q_X8_houseNow_162 at hp
    refine lv_iload_n hx hb dX8_houseNow_162 rfl (lv_at hl 0 rfl) ?_
    exact hret x2 (σ) _ _ _ _ _ _ dX8_houseNow_163 rfl hP hD hS (Nat.le_of_ble_eq_true rfl) (Nat.le_of_ble_eq_true rfl) hp
  have B_130 : ∀ (n_130 : Nat) (x2 : Int32) (x3 : Int32) (σ : Mem) (H : Heap) (locs : List Loc) (ls : Array Slot), va_P D vwCl (WM k ad g (σ)) H → va_D A (WM k ad g (σ)) → va_S A s.heap H locs → lv_has ls 5 [(0, .ref (ad 0)), (2, .int x2), (3, .int x3)] → lp_3 (q_X8_houseNow_130 (g 0) (g 2) post (q_X8_houseNow_162 (g 0) (g 2) post)) n_130 x2 x3 σ → W p l e rm_X8_houseNow s m args below meth c H locs 0 0 Q (F0 m 130 ls []) := by
    intro n_130
    induction n_130 with
    | zero => intro x2 x3 σ H locs ls hP hD hS hl hp; exact hp.elim
    | succ n_130 ih_130 =>
      have B_154 : ∀ (s0 : Int32) (s1 : Int32) (x3 : Int32) (σ : Mem) (H : Heap) (locs : List Loc) (ls : Array Slot), va_P D vwCl (WM k ad g (σ)) H → va_D A (WM k ad g (σ)) → va_S A s.heap H locs → lv_has ls 5 [(0, .ref (ad 0)), (3, .int x3)] → (q_X8_houseNow_154 (g 0) (g 2) post (q_X8_houseNow_162 (g 0) (g 2) post) (lp_3 (q_X8_houseNow_130 (g 0) (g 2) post (q_X8_houseNow_162 (g 0) (g 2) post)) n_130)) s0 s1 x3 σ → W p l e rm_X8_houseNow s m args below meth c H locs 0 0 Q (F0 m 154 ls [.int s0, .int s1]) := by
        intro s0 s1 x3 σ H locs ls hP hD hS hl hp
        unfold q_X8_houseNow_154 at hp
        refine lv_iadd hx hb dX8_houseNow_154 ?_
        refine lv_topi (fun v60001 ev60001 => ?_)
        have hp := hp v60001 ev60001
        refine lv_istore_n (lv' := [(2, .int v60001), (0, .ref (ad 0)), (3, .int x3)]) hx hb dX8_houseNow_155 rfl hl (by decide) rfl (fun ls hl => ?_)
        obtain ⟨v60002, ev60002⟩ : ∃ z : Int32, z = x3 + 1 := ⟨_, rfl⟩
        have hp := hp v60002 ev60002
        refine lv_iinc (v := v60002) (lv' := [(3, .int v60002), (2, .int v60001), (0, .ref (ad 0))]) hx hb dX8_houseNow_156 hl (k := 2) rfl (by rw [ev60002]; rfl) (by decide) rfl (fun ls hl => ?_)
        refine lv_goto (tgt := 130) hx hb dX8_houseNow_159 (by decide) ?_
        exact ih_130 v60001 v60002 (σ) _ _ _  hP hD hS (lv_sub hl [2, 1, 0] rfl) hp
      intro x2 x3 σ H locs ls hP hD hS hl hp
      have hp : q_X8_houseNow_130 (g 0) (g 2) post (q_X8_houseNow_162 (g 0) (g 2) post) (lp_3 (q_X8_houseNow_130 (g 0) (g 2) post (q_X8_houseNow_162 (g 0) (g 2) post)) n_130) x2 x3 σ := hp
      unfold q_X8_houseNow_130 at hp
      refine lv_iload_n hx hb dX8_houseNow_130 rfl (lv_at hl 2 rfl) ?_
      refine lv_aload_n hx hb dX8_houseNow_131 rfl (lv_at hl 0 rfl) ?_
      refine va_get (D := D) (ci := 12) (C := RX8) (T := TX8) (N := 15) hx hb hts hin_X8 hown hK hP 0 rfl rfl 3 (by decide) hf_45 (fun _ h9 => h9) rfl dX8_houseNow_132 ?_
      refine lv_icmp_ge (tgt := 162) hx hb dX8_houseNow_135 (by decide) (fun c50001 => ?_) (fun c50001 => ?_)
      · have hp := hp.1 c50001
        exact B_162 x2 (σ) _ _ _  hP hD hS (lv_sub hl [1] rfl) hp
      · have hp := hp.2 c50001
        refine lv_iload_n hx hb dX8_houseNow_138 rfl (lv_at hl 1 rfl) ?_
        refine lv_aload_n hx hb dX8_houseNow_139 rfl (lv_at hl 0 rfl) ?_
        refine lv_iconst (v := 0) hx hb dX8_houseNow_140 (by decide) ?_
        refine lv_iload_n hx hb dX8_houseNow_141 rfl (lv_at hl 2 rfl) ?_
        refine fw_ciV (As := [.int 0, .int x3]) (rest := [.int x2]) hC (c_X8_count l D k ad g hg hp) (cwV 2 hts (gA_V A_737 A_738 A_739 A_601 A_691) rfl rfl rfl (by decide +kernel) ⟨Nat.le_of_ble_eq_true rfl, Nat.le_of_ble_eq_true rfl⟩) (va_recv hK hP (ci := 12) (q0 := 0) rfl rfl) rfl hl.1 rfl (Nat.le_of_ble_eq_true rfl) dX8_houseNow_142 ⟨Nat.le_of_ble_eq_true rfl, Nat.le_of_ble_eq_true rfl⟩ hP hD hS Jn.same (fun r50002 σ50003 H locs hP hD hS hp => ?_)
        have hP : va_P D vwCl (WM k ad g (σ50003)) H := hP
        have hD : va_D A (WM k ad g (σ50003)) := hD
        refine lv_iconst (v := 1) hx hb dX8_houseNow_145 (by decide) ?_
        refine lv_icmp_ne (tgt := 153) hx hb dX8_houseNow_146 (by decide) (fun c50004 => ?_) (fun c50004 => ?_)
        · have hp := hp.1 c50004
          refine lv_iconst (v := 0) hx hb dX8_houseNow_153 (by decide) ?_
          exact B_154 0 x2 x3 (σ50003) _ _ _  hP hD hS (lv_sub hl [0, 2] rfl) hp
        · have hp := hp.2 c50004
          refine lv_iconst (v := 1) hx hb dX8_houseNow_149 (by decide) ?_
          refine lv_goto (tgt := 154) hx hb dX8_houseNow_150 (by decide) ?_
          exact B_154 1 x2 x3 (σ50003) _ _ _  hP hD hS (lv_sub hl [0, 2] rfl) hp
  have B_123 : ∀ (s0 : Int32) (σ : Mem) (H : Heap) (locs : List Loc) (ls : Array Slot), va_P D vwCl (WM k ad g (σ)) H → va_D A (WM k ad g (σ)) → va_S A s.heap H locs → lv_has ls 5 [] → (q_X8_houseNow_123 (g 0) (g 2) post) s0 σ → W p l e rm_X8_houseNow s m args below meth c H locs 0 0 Q (F0 m 123 ls [.int s0]) := by
    intro s0 σ H locs ls hP hD hS hl hp
    unfold q_X8_houseNow_123 at hp
    exact hret s0 (σ) _ _ _ _ _ _ dX8_houseNow_123 rfl hP hD hS (Nat.le_of_ble_eq_true rfl) (Nat.le_of_ble_eq_true rfl) hp
  have B_109 : ∀ (x2 : Int32) (σ : Mem) (H : Heap) (locs : List Loc) (ls : Array Slot), va_P D vwCl (WM k ad g (σ)) H → va_D A (WM k ad g (σ)) → va_S A s.heap H locs → lv_has ls 5 [(2, .int x2)] → (q_X8_houseNow_109 (g 0) (g 2) post) x2 σ → W p l e rm_X8_houseNow s m args below meth c H locs 1 4 Q (F0 m 109 ls []) := by
    intro x2 σ H locs ls hP hD hS hl hp
    unfold q_X8_houseNow_109 at hp
    refine lv_iload_n hx hb dX8_houseNow_109 rfl (lv_at hl 0 rfl) ?_
    exact hret x2 (σ) _ _ _ _ _ _ dX8_houseNow_110 rfl hP hD hS (Nat.le_of_ble_eq_true rfl) (Nat.le_of_ble_eq_true rfl) hp
  have B_69 : ∀ (n_69 : Nat) (x2 : Int32) (wi : Nat) (w0 : Int32) (w1 : Int32) (w2 : Int32) (σ : Mem) (H : Heap) (locs : List Loc) (ls : Array Slot), va_P D vwCl (WMI k ad g wi w0 w1 w2 (σ)) H → va_D A (WMI k ad g wi w0 w1 w2 (σ)) → va_S A s.heap H locs → lv_has ls 5 [(0, .ref (ad 0)), (2, .int x2), (3, .ref wi)] → lp_6 (q_X8_houseNow_69 (g 0) (g 2) post (q_X8_houseNow_109 (g 0) (g 2) post)) n_69 x2 wi w0 w1 w2 σ → W p l e rm_X8_houseNow s m args below meth c H locs 1 4 Q (F0 m 69 ls []) := by
    intro n_69
    induction n_69 with
    | zero => intro x2 wi w0 w1 w2 σ H locs ls hP hD hS hl hp; exact hp.elim
    | succ n_69 ih_69 =>
      have B_104 : ∀ (s0 : Int32) (s1 : Int32) (wi : Nat) (w0 : Int32) (w1 : Int32) (w2 : Int32) (σ : Mem) (H : Heap) (locs : List Loc) (ls : Array Slot), va_P D vwCl (WMI k ad g wi w0 w1 w2 (σ)) H → va_D A (WMI k ad g wi w0 w1 w2 (σ)) → va_S A s.heap H locs → lv_has ls 5 [(0, .ref (ad 0)), (3, .ref wi)] → (q_X8_houseNow_104 (g 0) (g 2) post (q_X8_houseNow_109 (g 0) (g 2) post) (lp_6 (q_X8_houseNow_69 (g 0) (g 2) post (q_X8_houseNow_109 (g 0) (g 2) post)) n_69)) s0 s1 wi w0 w1 w2 σ → W p l e rm_X8_houseNow s m args below meth c H locs 1 4 Q (F0 m 104 ls [.int s0, .int s1]) := by
        intro s0 s1 wi w0 w1 w2 σ H locs ls hP hD hS hl hp
        unfold q_X8_houseNow_104 at hp
        refine lv_iadd hx hb dX8_houseNow_104 ?_
        refine lv_topi (fun v20001 ev20001 => ?_)
        have hp := hp v20001 ev20001
        refine lv_istore_n (lv' := [(2, .int v20001), (0, .ref (ad 0)), (3, .ref wi)]) hx hb dX8_houseNow_105 rfl hl (by decide) rfl (fun ls hl => ?_)
        refine lv_goto (tgt := 69) hx hb dX8_houseNow_106 (by decide) ?_
        exact ih_69 v20001 wi w0 w1 w2 (σ) _ _ _  hP hD hS (lv_sub hl [1, 0, 2] rfl) hp
      intro x2 wi w0 w1 w2 σ H locs ls hP hD hS hl hp
      have hp : q_X8_houseNow_69 (g 0) (g 2) post (q_X8_houseNow_109 (g 0) (g 2) post) (lp_6 (q_X8_houseNow_69 (g 0) (g 2) post (q_X8_houseNow_109 (g 0) (g 2) post)) n_69) x2 wi w0 w1 w2 σ := hp
      unfold q_X8_houseNow_69 at hp
      refine lv_aload_n hx hb dX8_houseNow_69 rfl (lv_at hl 2 rfl) ?_
      obtain ⟨j10001, ⟨hj10001, ej10001⟩, hp⟩ := hp
      refine wm_hasNext (rest := []) hC hg hj10001 ej10001 (gA_F (a := Cond.code yX8_houseNow cX8_houseNow 5 (some .int)) (x := itH) A_854 A_855 A_856 A_840 A_843) hl.1 rfl (Nat.le_of_ble_eq_true rfl) (Nat.le_of_ble_eq_true rfl) (Nat.le_of_ble_eq_true rfl) dX8_houseNow_70 ⟨Nat.le_of_ble_eq_true rfl, Nat.le_of_ble_eq_true rfl⟩ hP hD hS (fun r10002 er10002 H locs hP hD hS => ?_)
      have hp := hp r10002 er10002
      refine lv_if_eq (tgt := 109) hx hb dX8_houseNow_75 (by decide) (fun c10003 => ?_) (fun c10003 => ?_)
      · have hp := hp.1 c10003
        have hP := P_left hP
        have hD := D_left hD
        exact B_109 x2 (σ) _ _ _  hP hD hS (lv_sub hl [1] rfl) hp
      · have hp := hp.2 c10003
        refine lv_aload_n hx hb dX8_houseNow_78 rfl (lv_at hl 2 rfl) ?_
        obtain ⟨j10004, ⟨hj10004, ej10004, fj10004⟩, hp⟩ := hp
        refine wm_next (rest := []) hC hg hj10004 ej10004 fj10004 (gA_F (a := Cond.code yX8_houseNow cX8_houseNow 5 (some .int)) (x := itN) A_857 A_858 A_859 A_840 A_846) hl.1 rfl (Nat.le_of_ble_eq_true rfl) (Nat.le_of_ble_eq_true rfl) (Nat.le_of_ble_eq_true rfl) dX8_houseNow_79 ⟨Nat.le_of_ble_eq_true rfl, Nat.le_of_ble_eq_true rfl⟩ hP hD hS (fun z10005 z10006 ez10005 ez10006 H locs hP hD hS => ?_)
        have hp := hp z10005 ez10005 z10006 ez10006
        refine va_castS hx hb hown (hts _ (List.mem_cons_of_mem _ A_662)) (hK.1 11 _ rfl).2 (va_recv hK hP (ci := 11) (q0 := lnP g j10004) rfl (app_l (WM_ln k ad g (σ) hj10004))) dX8_houseNow_84 ?_
        refine lv_astore (lv' := [(4, .ref (ad (100 + j10004))), (0, .ref (ad 0)), (2, .int x2), (3, .ref wi)]) hx hb dX8_houseNow_87 hl (by decide) rfl (fun ls hl => ?_)
        refine lv_iload_n hx hb dX8_houseNow_89 rfl (lv_at hl 2 rfl) ?_
        refine lv_aload_n hx hb dX8_houseNow_90 rfl (lv_at hl 1 rfl) ?_
        refine lv_aload hx hb dX8_houseNow_91 (lv_at hl 0 rfl) ?_
        refine fw_ciV (As := [.ref (ad (100 + j10004))]) (rest := [.int x2]) hC (c_X8_counts l D k ad g hg hj10004 hp) (cwV 1 hts (gA_V A_624 A_625 A_626 A_601 A_609) rfl rfl rfl (by decide +kernel) ⟨Nat.le_of_ble_eq_true rfl, Nat.le_of_ble_eq_true rfl⟩) (va_recv hK hP (ci := 12) (q0 := 0) rfl rfl) rfl hl.1 rfl (Nat.le_of_ble_eq_true rfl) dX8_houseNow_93 ⟨Nat.le_of_ble_eq_true rfl, Nat.le_of_ble_eq_true rfl⟩ (P_left hP) (D_left hD) hS (Jn.left hP hD) (fun r10007 σ10008 H locs hP hD hS hp => ?_)
        have hP : va_P D vwCl (WMI k ad g wi z10005 z10006 w2 (σ10008)) H := hP
        have hD : va_D A (WMI k ad g wi z10005 z10006 w2 (σ10008)) := hD
        refine lv_if_eq (tgt := 103) hx hb dX8_houseNow_96 (by decide) (fun c10009 => ?_) (fun c10009 => ?_)
        · have hp := hp.1 c10009
          refine lv_iconst (v := 0) hx hb dX8_houseNow_103 (by decide) ?_
          exact B_104 0 x2 wi z10005 z10006 w2 (σ10008) _ _ _  hP hD hS (lv_sub hl [1, 3] rfl) hp
        · have hp := hp.2 c10009
          refine lv_iconst (v := 1) hx hb dX8_houseNow_99 (by decide) ?_
          refine lv_goto (tgt := 104) hx hb dX8_houseNow_100 (by decide) ?_
          exact B_104 1 x2 wi z10005 z10006 w2 (σ10008) _ _ _  hP hD hS (lv_sub hl [1, 3] rfl) hp
  refine lv_iconst (v := 0) hx hb dX8_houseNow_0 (by decide) ?_
  refine lv_istore_n (lv' := [(2, .int 0), (0, .ref (ad 0)), (1, .int p1)]) hx hb dX8_houseNow_1 rfl hl (by decide) rfl (fun ls hl => ?_)
  refine lv_iload_n hx hb dX8_houseNow_2 rfl (lv_at hl 2 rfl) ?_
  rcases sw_in p1 8 (by decide) with c1 | ⟨j2, hj2, ej2⟩
  · have hp := hp.1 c1
    refine lv_tableOut (tgt := 220) hx hb dX8_houseNow_3 (sw_of c1) (by decide) ?_
    refine lv_aload_n hx hb dX8_houseNow_220 rfl (lv_at hl 1 rfl) ?_
    refine va_get (D := D) (ci := 12) (C := RX8) (T := TX8) (N := 15) hx hb hts hin_X8 hown hK hP 0 rfl rfl 8 (by decide) hf_210 (fun _ h9 => h9) rfl dX8_houseNow_221 ?_
    exact hret ((σ) 0 8) (σ) _ _ _ _ _ _ dX8_houseNow_224 rfl hP hD hS (Nat.le_of_ble_eq_true rfl) (Nat.le_of_ble_eq_true rfl) hp
  · have hp := hp.2
    rcases (show j2 = 0 ∨ j2 = 1 ∨ j2 = 2 ∨ j2 = 3 ∨ j2 = 4 ∨ j2 = 5 ∨ j2 = 6 ∨ j2 = 7 by omega) with rfl | rfl | rfl | rfl | rfl | rfl | rfl | rfl
    · have hp := hp.1 ej2
      refine lv_tableIn (tgt := 48) (off := 45) hx hb dX8_houseNow_3 (by rw [ej2]; decide) (by rw [ej2]; decide) (by rw [ej2]; rfl) (by decide) ?_
      refine lv_aload_n hx hb dX8_houseNow_48 rfl (lv_at hl 1 rfl) ?_
      refine va_get (D := D) (ci := 12) (C := RX8) (T := TX8) (N := 15) hx hb hts hin_X8 hown hK hP 0 rfl rfl 3 (by decide) hf_45 (fun _ h9 => h9) rfl dX8_houseNow_49 ?_
      exact hret ((σ) 0 3) (σ) _ _ _ _ _ _ dX8_houseNow_52 rfl hP hD hS (Nat.le_of_ble_eq_true rfl) (Nat.le_of_ble_eq_true rfl) hp
    · have hp := hp.2.1 ej2
      refine lv_tableIn (tgt := 53) (off := 50) hx hb dX8_houseNow_3 (by rw [ej2]; decide) (by rw [ej2]; decide) (by rw [ej2]; rfl) (by decide) ?_
      refine lv_aload_n hx hb dX8_houseNow_53 rfl (lv_at hl 1 rfl) ?_
      refine va_get (D := D) (ci := 12) (C := RX8) (T := TX8) (N := 15) hx hb hts hin_X8 hown hK hP 0 rfl rfl 4 (by decide) hf_19 (fun _ h9 => h9) rfl dX8_houseNow_54 ?_
      refine wm_size_line (rest := []) hC (gA_V (a := Cond.code yX8_houseNow cX8_houseNow 5 (some .int)) A_605 A_606 A_607 A_583 A_602) hl.1 rfl (Nat.le_of_ble_eq_true rfl) (Nat.le_of_ble_eq_true rfl) (Nat.le_of_ble_eq_true rfl) dX8_houseNow_57 ⟨Nat.le_of_ble_eq_true rfl, Nat.le_of_ble_eq_true rfl⟩ hP hD hS (fun H locs hP hD hS => ?_)
      exact hret (nI (g 0)) (σ) _ _ _ _ _ _ dX8_houseNow_60 rfl hP hD hS (Nat.le_of_ble_eq_true rfl) (Nat.le_of_ble_eq_true rfl) hp
    · have hp := hp.2.2.1 ej2
      refine lv_tableIn (tgt := 61) (off := 58) hx hb dX8_houseNow_3 (by rw [ej2]; decide) (by rw [ej2]; decide) (by rw [ej2]; rfl) (by decide) ?_
      refine lv_aload_n hx hb dX8_houseNow_61 rfl (lv_at hl 1 rfl) ?_
      refine va_get (D := D) (ci := 12) (C := RX8) (T := TX8) (N := 15) hx hb hts hin_X8 hown hK hP 0 rfl rfl 4 (by decide) hf_19 (fun _ h9 => h9) rfl dX8_houseNow_62 ?_
      refine wm_iter (rest := []) hC (gA_V (a := Cond.code yX8_houseNow cX8_houseNow 5 (some .int)) A_851 A_852 A_853 A_583 A_837) hl.1 rfl (Nat.le_of_ble_eq_true rfl) (Nat.le_of_ble_eq_true rfl) (Nat.le_of_ble_eq_true rfl) dX8_houseNow_65 ⟨Nat.le_of_ble_eq_true rfl, Nat.le_of_ble_eq_true rfl⟩ hP hD hS (fun i3 H locs hP hD hS => ?_)
      have hp := hp i3
      refine lv_astore_n (lv' := [(3, .ref i3), (2, .int 0), (0, .ref (ad 0)), (1, .int p1)]) hx hb dX8_houseNow_68 rfl hl (by decide) rfl (fun ls hl => ?_)
      obtain ⟨n9, hp⟩ := hp
      exact B_69 n9 0 i3 0 (-1) ((σ) 3 0) (σ) _ _ _  hP hD hS (lv_sub hl [2, 1, 0] rfl) hp
    · have hp := hp.2.2.2.1 ej2
      refine lv_tableIn (tgt := 111) (off := 108) hx hb dX8_houseNow_3 (by rw [ej2]; decide) (by rw [ej2]; decide) (by rw [ej2]; rfl) (by decide) ?_
      refine lv_aload_n hx hb dX8_houseNow_111 rfl (lv_at hl 1 rfl) ?_
      refine fw_ciV (As := []) (rest := []) hC (c_X8_isContradiction l D k ad g hg hp) (cwV 0 hts (gA_V A_778 A_779 A_780 A_601 A_760) rfl rfl rfl (by decide +kernel) ⟨Nat.le_of_ble_eq_true rfl, Nat.le_of_ble_eq_true rfl⟩) (va_recv hK hP (ci := 12) (q0 := 0) rfl rfl) rfl hl.1 rfl (Nat.le_of_ble_eq_true rfl) dX8_houseNow_112 ⟨Nat.le_of_ble_eq_true rfl, Nat.le_of_ble_eq_true rfl⟩ hP hD hS Jn.same (fun r4 σ5 H locs hP hD hS hp => ?_)
      have hP : va_P D vwCl (WM k ad g (σ5)) H := hP
      have hD : va_D A (WM k ad g (σ5)) := hD
      refine lv_if_eq (tgt := 122) hx hb dX8_houseNow_115 (by decide) (fun c6 => ?_) (fun c6 => ?_)
      · have hp := hp.1 c6
        refine lv_iconst (v := 0) hx hb dX8_houseNow_122 (by decide) ?_
        exact B_123 0 (σ5) _ _ _  hP hD hS (lv_sub hl [] rfl) hp
      · have hp := hp.2 c6
        refine lv_iconst (v := 1) hx hb dX8_houseNow_118 (by decide) ?_
        refine lv_goto (tgt := 123) hx hb dX8_houseNow_119 (by decide) ?_
        exact B_123 1 (σ5) _ _ _  hP hD hS (lv_sub hl [] rfl) hp
    · have hp := hp.2.2.2.2.1 ej2
      refine lv_tableIn (tgt := 124) (off := 121) hx hb dX8_houseNow_3 (by rw [ej2]; decide) (by rw [ej2]; decide) (by rw [ej2]; rfl) (by decide) ?_
      refine lv_aload_n hx hb dX8_houseNow_124 rfl (lv_at hl 1 rfl) ?_
      refine fw_cvV (As := []) (rest := []) hC (c_X8_settle l D k ad g hg hp) (cwV 0 hts (gA_V A_753 A_754 A_755 A_601 A_752) rfl rfl rfl (by decide +kernel) ⟨Nat.le_of_ble_eq_true rfl, Nat.le_of_ble_eq_true rfl⟩) (va_recv hK hP (ci := 12) (q0 := 0) rfl rfl) rfl hl.1 rfl (Nat.le_of_ble_eq_true rfl) dX8_houseNow_125 ⟨Nat.le_of_ble_eq_true rfl, Nat.le_of_ble_eq_true rfl⟩ hP hD hS Jn.same (fun σ8 H locs hP hD hS hp => ?_)
      have hP : va_P D vwCl (WM k ad g (σ8)) H := hP
      have hD : va_D A (WM k ad g (σ8)) := hD
      refine lv_iconst (v := 0) hx hb dX8_houseNow_128 (by decide) ?_
      refine lv_istore_n (lv' := [(3, .int 0), (2, .int 0), (0, .ref (ad 0)), (1, .int p1)]) hx hb dX8_houseNow_129 rfl hl (by decide) rfl (fun ls hl => ?_)
      obtain ⟨n9, hp⟩ := hp
      exact B_130 n9 0 0 (σ8) _ _ _  hP hD hS (lv_sub hl [2, 1, 0] rfl) hp
    · have hp := hp.2.2.2.2.2.1 ej2
      refine lv_tableIn (tgt := 164) (off := 161) hx hb dX8_houseNow_3 (by rw [ej2]; decide) (by rw [ej2]; decide) (by rw [ej2]; rfl) (by decide) ?_
      refine lv_aload_n hx hb dX8_houseNow_164 rfl (lv_at hl 1 rfl) ?_
      refine va_get (D := D) (ci := 12) (C := RX8) (T := TX8) (N := 15) hx hb hts hin_X8 hown hK hP 0 rfl rfl 5 (by decide) hf_23 (fun _ h9 => h9) rfl dX8_houseNow_165 ?_
      refine wm_size_commit (rest := []) hC (gA_V (a := Cond.code yX8_houseNow cX8_houseNow 5 (some .int)) A_605 A_606 A_607 A_583 A_602) hl.1 rfl (Nat.le_of_ble_eq_true rfl) (Nat.le_of_ble_eq_true rfl) (Nat.le_of_ble_eq_true rfl) dX8_houseNow_168 ⟨Nat.le_of_ble_eq_true rfl, Nat.le_of_ble_eq_true rfl⟩ hP hD hS (fun H locs hP hD hS => ?_)
      exact hret (nI (g 2)) (σ) _ _ _ _ _ _ dX8_houseNow_171 rfl hP hD hS (Nat.le_of_ble_eq_true rfl) (Nat.le_of_ble_eq_true rfl) hp
    · have hp := hp.2.2.2.2.2.2.1 ej2
      refine lv_tableIn (tgt := 172) (off := 169) hx hb dX8_houseNow_3 (by rw [ej2]; decide) (by rw [ej2]; decide) (by rw [ej2]; rfl) (by decide) ?_
      refine lv_iconst (v := 0) hx hb dX8_houseNow_172 (by decide) ?_
      refine lv_istore_n (lv' := [(3, .int 0), (2, .int 0), (0, .ref (ad 0)), (1, .int p1)]) hx hb dX8_houseNow_173 rfl hl (by decide) rfl (fun ls hl => ?_)
      obtain ⟨n9, hp⟩ := hp
      exact B_174 n9 0 0 (σ) _ _ _  hP hD hS (lv_sub hl [2, 1, 0] rfl) hp
    · have hp := hp.2.2.2.2.2.2.2 ej2
      refine lv_tableIn (tgt := 204) (off := 201) hx hb dX8_houseNow_3 (by rw [ej2]; decide) (by rw [ej2]; decide) (by rw [ej2]; rfl) (by decide) ?_
      refine lv_aload_n hx hb dX8_houseNow_204 rfl (lv_at hl 1 rfl) ?_
      refine fw_ciV (As := []) (rest := []) hC (c_X8_isChosen l D k ad g hg hp) (cwV 0 hts (gA_V A_805 A_806 A_807 A_601 A_773) rfl rfl rfl (by decide +kernel) ⟨Nat.le_of_ble_eq_true rfl, Nat.le_of_ble_eq_true rfl⟩) (va_recv hK hP (ci := 12) (q0 := 0) rfl rfl) rfl hl.1 rfl (Nat.le_of_ble_eq_true rfl) dX8_houseNow_205 ⟨Nat.le_of_ble_eq_true rfl, Nat.le_of_ble_eq_true rfl⟩ hP hD hS Jn.same (fun r9 σ10 H locs hP hD hS hp => ?_)
      have hP : va_P D vwCl (WM k ad g (σ10)) H := hP
      have hD : va_D A (WM k ad g (σ10)) := hD
      refine lv_if_eq (tgt := 218) hx hb dX8_houseNow_208 (by decide) (fun c11 => ?_) (fun c11 => ?_)
      · have hp := hp.1 c11
        refine lv_iconst (v := (-1)) hx hb dX8_houseNow_218 (by decide) ?_
        exact B_219 (-1) (σ10) _ _ _  hP hD hS (lv_sub hl [] rfl) hp
      · have hp := hp.2 c11
        refine lv_aload_n hx hb dX8_houseNow_211 rfl (lv_at hl 1 rfl) ?_
        refine va_get (D := D) (ci := 12) (C := RX8) (T := TX8) (N := 15) hx hb hts hin_X8 hown hK hP 0 rfl rfl 12 (by decide) hf_183 (fun _ h9 => h9) rfl dX8_houseNow_212 ?_
        refine lv_goto (tgt := 219) hx hb dX8_houseNow_215 (by decide) ?_
        exact B_219 ((σ10) 0 12) (σ10) _ _ _  hP hD hS (lv_sub hl [] rfl) hp
def q_X8_house_28 (n : Nat) (c : Nat) (post : Int32 → Mem → Prop)  (s0 : Int32) (σ : Mem) : Prop := post s0 (σ)
def q_X8_house (n : Nat) (c : Nat) (post : Int32 → Mem → Prop) (p1 : Int32) (σ : Mem) : Prop := (∀ σ1 : Mem, σ1 = mst (σ) 0 0 0 → (q_X8_is (fun (r2 : Int32) (σ3 : Mem) => ((r2 = 0 → (q_X8_refuse n c (fun (r5 : Int32) (σ6 : Mem) => (q_X8_house_28 n c post) r5 (σ6)) 1 (σ1))) ∧ (¬ (r2 = 0) → (q_X8_houseNow n c (fun (r7 : Int32) (σ8 : Mem) => (q_X8_house_28 n c post) r7 (σ8)) p1 (σ1))))) p1 0 8 (σ1)))
abbrev rm_X8_house : Room := { frames := 19, cells := 1, slots := 4, locals := 909 }
abbrev wq_X8_house : List Cond := Cond.code yX8_house cX8_house 2 (some .int) :: wALL
set_option maxHeartbeats 4000000 in
set_option maxRecDepth 100000 in
theorem c_X8_house (l : Launch) (D : va_G) (k ad g : Nat → Nat) (hg : gok g) {sz : Nat} {σ : Mem} {p1 : Int32} {post : Int32 → Mem → Prop} (hp : q_X8_house (g 0) (g 2) post p1 σ) : Met l yX8_house wq_X8_house rm_X8_house (va_Pc [.ref (ad 0), .int p1] (Pw D k (WM k ad g (σ)) sz)) (va_Qi post (fun u => Bw D (WM k ad g (σ)) sz (WM k ad g u)) (va_A (WM k ad g (σ)) sz)) 1 4 (va_A (WM k ad g (σ)) sz) := by
  refine fw_i (wf := fun u : Mem => WM k ad g u) (by decide) rfl (Nat.le_of_ble_eq_true rfl) ?_
  intro p e s m args below meth c A Q ls hC hP hD hl hret
  obtain ⟨⟨hx, hb, hml, hown, hts⟩, hG, hA⟩ := id hC
  have hK := hG.1
  have hS : va_S A s.heap s.heap [] := va_S.rf
  have hin_X8 : ∀ w ∈ u_ws RX8 TX8 15, w ∈ wq_X8_house := fun w h => List.mem_cons_of_mem _ (iU_X8 w h)
  have hf_41 := hts _ (List.mem_cons_of_mem _ A_595)
  have hl : lv_has ls 2 [(0, .ref (ad 0)), (1, .int p1)] := hl
  have hown : s.vm.findClass RX8 = some m.cls := hown
  unfold q_X8_house at hp
  have B_28 : ∀ (s0 : Int32) (σ : Mem) (H : Heap) (locs : List Loc) (ls : Array Slot), va_P D vwCl (WM k ad g (σ)) H → va_D A (WM k ad g (σ)) → va_S A s.heap H locs → lv_has ls 2 [] → (q_X8_house_28 (g 0) (g 2) post) s0 σ → W p l e rm_X8_house s m args below meth c H locs 1 4 Q (F0 m 28 ls [.int s0]) := by
    intro s0 σ H locs ls hP hD hS hl hp
    unfold q_X8_house_28 at hp
    exact hret s0 (σ) _ _ _ _ _ _ dX8_house_28 rfl hP hD hS (Nat.le_of_ble_eq_true rfl) (Nat.le_of_ble_eq_true rfl) hp
  refine lv_aload_n hx hb dX8_house_0 rfl (lv_at hl 0 rfl) ?_
  refine lv_iconst (v := 0) hx hb dX8_house_1 (by decide) ?_
  refine va_put (D := D) (ci := 12) (v := .int 0) (ty := .int) (C := RX8) (T := TX8) (N := 15) hx hb hts hin_X8 tyX8 tyX8_ok nmX8 hown hK hP hD hS 0 rfl rfl 0 (by decide) hf_41 (fun _ h9 => h9) rfl (by decide +kernel) rfl rfl (Nat.le_of_ble_eq_true rfl) dX8_house_2 (fun H locs hP hD hS => ?_)
  obtain ⟨σ1, eσ1⟩ : ∃ z : Mem, z = mst (σ) 0 0 0 := ⟨_, rfl⟩
  have hp := hp σ1 eσ1
  have hP : va_P D vwCl (WM k ad g (σ1)) H := by rw [eσ1, WM_s (by decide)]; exact hP
  have hD : va_D A (WM k ad g (σ1)) := by rw [eσ1, WM_s (by decide)]; exact hD
  refine lv_iload_n hx hb dX8_house_5 rfl (lv_at hl 1 rfl) ?_
  refine lv_iconst (v := 0) hx hb dX8_house_6 (by decide) ?_
  refine lv_bipush (v := 8) hx hb dX8_house_7 (by decide) ?_
  refine fw_ciS (As := [.int p1, .int 0, .int 8]) (rest := []) hC (c_X8_is l D k hp) (va_cwS 3 hts (gA_S A_599 A_600 A_601 A_596) rfl rfl rfl (by decide +kernel) ⟨Nat.le_of_ble_eq_true rfl, Nat.le_of_ble_eq_true rfl⟩) rfl hl.1 rfl (Nat.le_of_ble_eq_true rfl) dX8_house_9 ⟨Nat.le_of_ble_eq_true rfl, Nat.le_of_ble_eq_true rfl⟩ P_nil D_nil hS (Jn.pure (w0 := fun _ : Mem => []) hP hD) (fun r2 σ3 H locs hP hD hS hp => ?_)
  have hP : va_P D vwCl (WM k ad g (σ1)) H := hP
  have hD : va_D A (WM k ad g (σ1)) := hD
  refine lv_if_eq (tgt := 23) hx hb dX8_house_12 (by decide) (fun c4 => ?_) (fun c4 => ?_)
  · have hp := hp.1 c4
    refine lv_aload_n hx hb dX8_house_23 rfl (lv_at hl 0 rfl) ?_
    refine lv_iconst (v := 1) hx hb dX8_house_24 (by decide) ?_
    refine fw_ciV (As := [.int 1]) (rest := []) hC (c_X8_refuse l D k ad g hg hp) (cwV 1 hts (gA_V A_629 A_630 A_631 A_601 A_594) rfl rfl rfl (by decide +kernel) ⟨Nat.le_of_ble_eq_true rfl, Nat.le_of_ble_eq_true rfl⟩) (va_recv hK hP (ci := 12) (q0 := 0) rfl rfl) rfl hl.1 rfl (Nat.le_of_ble_eq_true rfl) dX8_house_25 ⟨Nat.le_of_ble_eq_true rfl, Nat.le_of_ble_eq_true rfl⟩ hP hD hS Jn.same (fun r5 σ6 H locs hP hD hS hp => ?_)
    have hP : va_P D vwCl (WM k ad g (σ6)) H := hP
    have hD : va_D A (WM k ad g (σ6)) := hD
    refine W.widen (k := 1) (n := 4) (Nat.le_of_ble_eq_true rfl) (Nat.le_of_ble_eq_true rfl) ?_
    exact B_28 r5 (σ6) _ _ _  hP hD hS (lv_sub hl [] rfl) hp
  · have hp := hp.2 c4
    refine lv_aload_n hx hb dX8_house_15 rfl (lv_at hl 0 rfl) ?_
    refine lv_iload_n hx hb dX8_house_16 rfl (lv_at hl 1 rfl) ?_
    refine fw_ciV (As := [.int p1]) (rest := []) hC (c_X8_houseNow l D k ad g hg hp) (cwV 1 hts (gA_V A_861 A_862 A_863 A_601 A_860) rfl rfl rfl (by decide +kernel) ⟨Nat.le_of_ble_eq_true rfl, Nat.le_of_ble_eq_true rfl⟩) (va_recv hK hP (ci := 12) (q0 := 0) rfl rfl) rfl hl.1 rfl (Nat.le_of_ble_eq_true rfl) dX8_house_17 ⟨Nat.le_of_ble_eq_true rfl, Nat.le_of_ble_eq_true rfl⟩ hP hD hS Jn.same (fun r7 σ8 H locs hP hD hS hp => ?_)
    have hP : va_P D vwCl (WM k ad g (σ8)) H := hP
    have hD : va_D A (WM k ad g (σ8)) := hD
    refine lv_goto (tgt := 28) hx hb dX8_house_20 (by decide) ?_
    exact B_28 r7 (σ8) _ _ _  hP hD hS (lv_sub hl [] rfl) hp
def q_X8_isSoundNow_181 (n : Nat) (c : Nat) (post : Int32 → Mem → Prop)  (σ : Mem) : Prop := post 1 (σ)
def q_X8_isSoundNow_178 (n : Nat) (c : Nat) (post : Int32 → Mem → Prop) (kE_176 : Mem → Prop) (kE_181 : Mem → Prop) (kc_139 : Nat → Int32 → Int32 → Int32 → Mem → Prop) (wi : Nat) (w0 : Int32) (w1 : Int32) (w2 : Int32) (σ : Mem) : Prop := kc_139 wi w0 w1 w2 (σ)
def q_X8_isSoundNow_176 (n : Nat) (c : Nat) (post : Int32 → Mem → Prop)  (σ : Mem) : Prop := post 0 (σ)
def q_X8_isSoundNow_139 (n : Nat) (c : Nat) (post : Int32 → Mem → Prop) (kE_176 : Mem → Prop) (kE_181 : Mem → Prop) (kc_139 : Nat → Int32 → Int32 → Int32 → Mem → Prop) (wi : Nat) (w0 : Int32) (w1 : Int32) (w2 : Int32) (σ : Mem) : Prop := (∃ j11001 : Nat, (j11001 ≤ n ∧ w0 = nI j11001) ∧ (∀ r11002 : Int32, r11002 = (if j11001 < n then 1 else 0) → ((r11002 = 0 → kE_181 (σ)) ∧ (¬ (r11002 = 0) → (∃ j11004 : Nat, (j11004 < n ∧ w0 = nI j11004 ∧ w2 = (σ) 3 0) ∧ (∀ z11005 : Int32, z11005 = nI (j11004 + 1) → ∀ z11006 : Int32, z11006 = nI j11004 → ((((σ) (100 + j11004) 6) = 0 → (q_X8_isSoundNow_178 n c post kE_176 kE_181 kc_139) wi z11005 z11006 w2 (σ)) ∧ (¬ (((σ) (100 + j11004) 6) = 0) → (q_X8_counts n c j11004 (fun (r11008 : Int32) (σ11009 : Mem) => ((r11008 = 0 → (q_X8_isSoundNow_178 n c post kE_176 kE_181 kc_139) wi z11005 z11006 w2 (σ11009)) ∧ (¬ (r11008 = 0) → kE_176 (σ11009)))) (σ))))))))))
def q_X8_isSoundNow_131 (n : Nat) (c : Nat) (post : Int32 → Mem → Prop)  (σ : Mem) : Prop := (∀ i10001 : Nat, (∃ n9 : Nat, lp_5 (q_X8_isSoundNow_139 n c post (q_X8_isSoundNow_176 n c post) (q_X8_isSoundNow_181 n c post)) n9 i10001 0 (-1) ((σ) 3 0) (σ)))
def q_X8_isSoundNow_125 (n : Nat) (c : Nat) (post : Int32 → Mem → Prop) (kE_123 : Mem → Prop) (kE_131 : Mem → Prop) (kc_99 : Int32 → Mem → Prop) (x3 : Int32) (σ : Mem) : Prop := (∀ v9001 : Int32, v9001 = x3 + 1 → kc_99 v9001 (σ))
def q_X8_isSoundNow_123 (n : Nat) (c : Nat) (post : Int32 → Mem → Prop)  (σ : Mem) : Prop := post 0 (σ)
def q_X8_isSoundNow_99 (n : Nat) (c : Nat) (post : Int32 → Mem → Prop) (kE_123 : Mem → Prop) (kE_131 : Mem → Prop) (kc_99 : Int32 → Mem → Prop) (x3 : Int32) (σ : Mem) : Prop := ((6 ≤ x3 → kE_131 (σ)) ∧ (¬ (6 ≤ x3) → (vp_in x3 6 ∧ ((((σ) 5 x3.toNatClampNeg) ≠ (-1) → (q_X8_isSoundNow_125 n c post kE_123 kE_131 kc_99) x3 (σ)) ∧ (((σ) 5 x3.toNatClampNeg) = (-1) → (q_X8_drifting n c (fun (r7004 : Int32) (σ7005 : Mem) => ((r7004 = 0 → (q_X8_isSoundNow_125 n c post kE_123 kE_131 kc_99) x3 (σ7005)) ∧ (¬ (r7004 = 0) → kE_123 (σ7005)))) x3 (σ)))))))
def q_X8_isSoundNow_97 (n : Nat) (c : Nat) (post : Int32 → Mem → Prop)  (σ : Mem) : Prop := (∃ n9 : Nat, lp_2 (q_X8_isSoundNow_99 n c post (q_X8_isSoundNow_123 n c post) (q_X8_isSoundNow_131 n c post)) n9 0 (σ))
def q_X8_isSoundNow_76 (n : Nat) (c : Nat) (post : Int32 → Mem → Prop)  (x1 : Int32) (σ : Mem) : Prop := ((x1 = 0 → (q_X8_isSoundNow_97 n c post) (σ)) ∧ (¬ (x1 = 0) → (q_X8_reasonFor n c (fun (r5002 : Int32) (σ5003 : Mem) => (q_X8_meetAnew n c (fun (r5004 : Int32) (σ5005 : Mem) => ((r5004 ≠ 0 → (q_X8_isSoundNow_97 n c post) (σ5005)) ∧ (r5004 = 0 → post 0 (σ5005)))) 0 r5002 (σ5003))) (-1) (σ))))
def q_X8_isSoundNow_70 (n : Nat) (c : Nat) (post : Int32 → Mem → Prop) (kE_68 : Mem → Prop) (kE_76 : Int32 → Mem → Prop) (kc_12 : Int32 → Int32 → Int32 → Mem → Prop) (x1 : Int32) (x2 : Int32) (x3 : Int32) (σ : Mem) : Prop := (∀ v4001 : Int32, v4001 = x3 + 1 → kc_12 x1 x2 v4001 (σ))
def q_X8_isSoundNow_68 (n : Nat) (c : Nat) (post : Int32 → Mem → Prop)  (σ : Mem) : Prop := post 0 (σ)
def q_X8_isSoundNow_50 (n : Nat) (c : Nat) (post : Int32 → Mem → Prop) (kE_68 : Mem → Prop) (kE_76 : Int32 → Mem → Prop) (kc_12 : Int32 → Int32 → Int32 → Mem → Prop) (x1 : Int32) (x2 : Int32) (x3 : Int32) (x4 : Int32) (σ : Mem) : Prop := ((x2 = 0 → (q_X8_isSoundNow_70 n c post kE_68 kE_76 kc_12) x1 x2 x3 (σ)) ∧ (¬ (x2 = 0) → (vp_in x3 5 ∧ ((((x4 >>> (((σ) 9 x3.toNatClampNeg) &&& 31)) &&& 1) ≠ 0 → (q_X8_isSoundNow_70 n c post kE_68 kE_76 kc_12) x1 x2 x3 (σ)) ∧ (((x4 >>> (((σ) 9 x3.toNatClampNeg) &&& 31)) &&& 1) = 0 → kE_68 (σ))))))
def q_X8_isSoundNow_12 (n : Nat) (c : Nat) (post : Int32 → Mem → Prop) (kE_68 : Mem → Prop) (kE_76 : Int32 → Mem → Prop) (kc_12 : Int32 → Int32 → Int32 → Mem → Prop) (x1 : Int32) (x2 : Int32) (x3 : Int32) (σ : Mem) : Prop := ((((σ) 0 3) ≤ x3 → kE_76 x1 (σ)) ∧ (¬ (((σ) 0 3) ≤ x3) → (q_X8_mayBe n c (fun (r1002 : Int32) (σ1003 : Mem) => (q_X8_whatIs n c (fun (r1004 : Int32) (σ1005 : Mem) => ((r1004 = (-1) → (q_X8_isSoundNow_50 n c post kE_68 kE_76 kc_12) x1 x2 x3 r1002 (σ1005)) ∧ (¬ (r1004 = (-1)) → ((((r1002 >>> (r1004 &&& 31)) &&& 1) = 0 → kE_68 (σ1005)) ∧ (¬ (((r1002 >>> (r1004 &&& 31)) &&& 1) = 0) → (q_X8_isSoundNow_50 n c post kE_68 kE_76 kc_12) x1 x2 x3 r1002 (σ1005)))))) x3 (σ1003))) x3 (σ))))
def q_X8_isSoundNow (n : Nat) (c : Nat) (post : Int32 → Mem → Prop) (σ : Mem) : Prop := (q_X8_isContradiction n c (fun (r1 : Int32) (σ2 : Mem) => (q_X8_isChosen n c (fun (r3 : Int32) (σ4 : Mem) => (∃ n9 : Nat, lp_4 (q_X8_isSoundNow_12 n c post (q_X8_isSoundNow_68 n c post) (q_X8_isSoundNow_76 n c post)) n9 r1 r3 0 (σ4))) (σ2))) (σ))
abbrev rm_X8_isSoundNow : Room := { frames := 18, cells := 1, slots := 4, locals := 885 }
abbrev wq_X8_isSoundNow : List Cond := Cond.code yX8_isSoundNow cX8_isSoundNow 6 (some .boolean) :: wALL
set_option maxHeartbeats 4000000 in
set_option maxRecDepth 100000 in
theorem c_X8_isSoundNow (l : Launch) (D : va_G) (k ad g : Nat → Nat) (hg : gok g) {sz : Nat} {σ : Mem} {post : Int32 → Mem → Prop} (hp : q_X8_isSoundNow (g 0) (g 2) post σ) : Met l yX8_isSoundNow wq_X8_isSoundNow rm_X8_isSoundNow (va_Pc [.ref (ad 0)] (Pw D k (WM k ad g (σ)) sz)) (va_Qi post (fun u => Bw D (WM k ad g (σ)) sz (WM k ad g u)) (va_A (WM k ad g (σ)) sz)) 1 4 (va_A (WM k ad g (σ)) sz) := by
  refine fw_i (wf := fun u : Mem => WM k ad g u) (by decide) rfl (Nat.le_of_ble_eq_true rfl) ?_
  intro p e s m args below meth c A Q ls hC hP hD hl hret
  obtain ⟨⟨hx, hb, hml, hown, hts⟩, hG, hA⟩ := id hC
  have hK := hG.1
  have hS : va_S A s.heap s.heap [] := va_S.rf
  have hin_X8 : ∀ w ∈ u_ws RX8 TX8 15, w ∈ wq_X8_isSoundNow := fun w h => List.mem_cons_of_mem _ (iU_X8 w h)
  have hf_45 := hts _ (List.mem_cons_of_mem _ A_598)
  have hf_38 := hts _ (List.mem_cons_of_mem _ A_590)
  have hf_26 := hts _ (List.mem_cons_of_mem _ A_586)
  have hf_19 := hts _ (List.mem_cons_of_mem _ A_584)
  have hin_X7 : ∀ w ∈ u_ws RX7 TX7 7, w ∈ wq_X8_isSoundNow := fun w h => List.mem_cons_of_mem _ (iU_X7 w h)
  have hl : lv_has ls 6 [(0, .ref (ad 0))] := hl
  have hown : s.vm.findClass RX8 = some m.cls := hown
  unfold q_X8_isSoundNow at hp
  have B_181 : ∀  (σ : Mem) (H : Heap) (locs : List Loc) (ls : Array Slot), va_P D vwCl (WM k ad g (σ)) H → va_D A (WM k ad g (σ)) → va_S A s.heap H locs → lv_has ls 6 [] → (q_X8_isSoundNow_181 (g 0) (g 2) post)  σ → W p l e rm_X8_isSoundNow s m args below meth c H locs 1 4 Q (F0 m 181 ls []) := by
    intro  σ H locs ls hP hD hS hl hp
    unfold q_X8_isSoundNow_181 at hp
    refine lv_iconst (v := 1) hx hb dX8_isSoundNow_181 (by decide) ?_
    exact hret 1 (σ) _ _ _ _ _ _ dX8_isSoundNow_182 (by decide) hP hD hS (Nat.le_of_ble_eq_true rfl) (Nat.le_of_ble_eq_true rfl) hp
  have B_176 : ∀  (σ : Mem) (H : Heap) (locs : List Loc) (ls : Array Slot), va_P D vwCl (WM k ad g (σ)) H → va_D A (WM k ad g (σ)) → va_S A s.heap H locs → lv_has ls 6 [] → (q_X8_isSoundNow_176 (g 0) (g 2) post)  σ → W p l e rm_X8_isSoundNow s m args below meth c H locs 1 4 Q (F0 m 176 ls []) := by
    intro  σ H locs ls hP hD hS hl hp
    unfold q_X8_isSoundNow_176 at hp
    refine lv_iconst (v := 0) hx hb dX8_isSoundNow_176 (by decide) ?_
    exact hret 0 (σ) _ _ _ _ _ _ dX8_isSoundNow_177 (by decide) hP hD hS (Nat.le_of_ble_eq_true rfl) (Nat.le_of_ble_eq_true rfl) hp
  have B_139 : ∀ (n_139 : Nat) (wi : Nat) (w0 : Int32) (w1 : Int32) (w2 : Int32) (σ : Mem) (H : Heap) (locs : List Loc) (ls : Array Slot), va_P D vwCl (WMI k ad g wi w0 w1 w2 (σ)) H → va_D A (WMI k ad g wi w0 w1 w2 (σ)) → va_S A s.heap H locs → lv_has ls 6 [(0, .ref (ad 0)), (3, .ref wi)] → lp_5 (q_X8_isSoundNow_139 (g 0) (g 2) post (q_X8_isSoundNow_176 (g 0) (g 2) post) (q_X8_isSoundNow_181 (g 0) (g 2) post)) n_139 wi w0 w1 w2 σ → W p l e rm_X8_isSoundNow s m args below meth c H locs 1 4 Q (F0 m 139 ls []) := by
    intro n_139
    induction n_139 with
    | zero => intro wi w0 w1 w2 σ H locs ls hP hD hS hl hp; exact hp.elim
    | succ n_139 ih_139 =>
      have B_178 : ∀ (wi : Nat) (w0 : Int32) (w1 : Int32) (w2 : Int32) (σ : Mem) (H : Heap) (locs : List Loc) (ls : Array Slot), va_P D vwCl (WMI k ad g wi w0 w1 w2 (σ)) H → va_D A (WMI k ad g wi w0 w1 w2 (σ)) → va_S A s.heap H locs → lv_has ls 6 [(0, .ref (ad 0)), (3, .ref wi)] → (q_X8_isSoundNow_178 (g 0) (g 2) post (q_X8_isSoundNow_176 (g 0) (g 2) post) (q_X8_isSoundNow_181 (g 0) (g 2) post) (lp_5 (q_X8_isSoundNow_139 (g 0) (g 2) post (q_X8_isSoundNow_176 (g 0) (g 2) post) (q_X8_isSoundNow_181 (g 0) (g 2) post)) n_139)) wi w0 w1 w2 σ → W p l e rm_X8_isSoundNow s m args below meth c H locs 1 4 Q (F0 m 178 ls []) := by
        intro wi w0 w1 w2 σ H locs ls hP hD hS hl hp
        unfold q_X8_isSoundNow_178 at hp
        refine lv_goto (tgt := 139) hx hb dX8_isSoundNow_178 (by decide) ?_
        exact ih_139 wi w0 w1 w2 (σ) _ _ _  hP hD hS (lv_sub hl [0, 1] rfl) hp
      intro wi w0 w1 w2 σ H locs ls hP hD hS hl hp
      have hp : q_X8_isSoundNow_139 (g 0) (g 2) post (q_X8_isSoundNow_176 (g 0) (g 2) post) (q_X8_isSoundNow_181 (g 0) (g 2) post) (lp_5 (q_X8_isSoundNow_139 (g 0) (g 2) post (q_X8_isSoundNow_176 (g 0) (g 2) post) (q_X8_isSoundNow_181 (g 0) (g 2) post)) n_139) wi w0 w1 w2 σ := hp
      unfold q_X8_isSoundNow_139 at hp
      refine lv_aload_n hx hb dX8_isSoundNow_139 rfl (lv_at hl 1 rfl) ?_
      obtain ⟨j110001, ⟨hj110001, ej110001⟩, hp⟩ := hp
      refine wm_hasNext (rest := []) hC hg hj110001 ej110001 (gA_F (a := Cond.code yX8_isSoundNow cX8_isSoundNow 6 (some .boolean)) (x := itH) A_854 A_855 A_856 A_840 A_843) hl.1 rfl (Nat.le_of_ble_eq_true rfl) (Nat.le_of_ble_eq_true rfl) (Nat.le_of_ble_eq_true rfl) dX8_isSoundNow_140 ⟨Nat.le_of_ble_eq_true rfl, Nat.le_of_ble_eq_true rfl⟩ hP hD hS (fun r110002 er110002 H locs hP hD hS => ?_)
      have hp := hp r110002 er110002
      refine lv_if_eq (tgt := 181) hx hb dX8_isSoundNow_145 (by decide) (fun c110003 => ?_) (fun c110003 => ?_)
      · have hp := hp.1 c110003
        have hP := P_left hP
        have hD := D_left hD
        exact B_181  (σ) _ _ _  hP hD hS (lv_sub hl [] rfl) hp
      · have hp := hp.2 c110003
        refine lv_aload_n hx hb dX8_isSoundNow_148 rfl (lv_at hl 1 rfl) ?_
        obtain ⟨j110004, ⟨hj110004, ej110004, fj110004⟩, hp⟩ := hp
        refine wm_next (rest := []) hC hg hj110004 ej110004 fj110004 (gA_F (a := Cond.code yX8_isSoundNow cX8_isSoundNow 6 (some .boolean)) (x := itN) A_857 A_858 A_859 A_840 A_846) hl.1 rfl (Nat.le_of_ble_eq_true rfl) (Nat.le_of_ble_eq_true rfl) (Nat.le_of_ble_eq_true rfl) dX8_isSoundNow_149 ⟨Nat.le_of_ble_eq_true rfl, Nat.le_of_ble_eq_true rfl⟩ hP hD hS (fun z110005 z110006 ez110005 ez110006 H locs hP hD hS => ?_)
        have hp := hp z110005 ez110005 z110006 ez110006
        refine va_castS hx hb hown (hts _ (List.mem_cons_of_mem _ A_662)) (hK.1 11 _ rfl).2 (va_recv hK hP (ci := 11) (q0 := lnP g j110004) rfl (app_l (WM_ln k ad g (σ) hj110004))) dX8_isSoundNow_154 ?_
        refine lv_astore (lv' := [(4, .ref (ad (100 + j110004))), (0, .ref (ad 0)), (3, .ref wi)]) hx hb dX8_isSoundNow_157 hl (by decide) rfl (fun ls hl => ?_)
        refine lv_aload hx hb dX8_isSoundNow_159 (lv_at hl 0 rfl) ?_
        refine va_getN (D := D) (ci := 11) (C := RX7) (T := TX7) (N := 7) hx hb hts hin_X7 hown hK hP (lnP g j110004) (app_l (WM_ln k ad g (σ) hj110004)) rfl 6 (by decide) (va_Nw.use rfl (GG.nf hG (q := (RX8, 56, "MeetjoinModel$Line", "isWithdrawn", "Z", "MeetjoinModel")) 2 rfl)) (fun _ h9 => h9) rfl dX8_isSoundNow_161 ?_
        refine lv_if_eq (tgt := 178) hx hb dX8_isSoundNow_164 (by decide) (fun c110007 => ?_) (fun c110007 => ?_)
        · have hp := hp.1 c110007
          exact B_178 wi z110005 z110006 w2 (σ) _ _ _  hP hD hS (lv_sub hl [1, 2] rfl) hp
        · have hp := hp.2 c110007
          refine lv_aload_n hx hb dX8_isSoundNow_167 rfl (lv_at hl 1 rfl) ?_
          refine lv_aload hx hb dX8_isSoundNow_168 (lv_at hl 0 rfl) ?_
          refine fw_ciV (As := [.ref (ad (100 + j110004))]) (rest := []) hC (c_X8_counts l D k ad g hg hj110004 hp) (cwV 1 hts (gA_V A_624 A_625 A_626 A_601 A_609) rfl rfl rfl (by decide +kernel) ⟨Nat.le_of_ble_eq_true rfl, Nat.le_of_ble_eq_true rfl⟩) (va_recv hK hP (ci := 12) (q0 := 0) rfl rfl) rfl hl.1 rfl (Nat.le_of_ble_eq_true rfl) dX8_isSoundNow_170 ⟨Nat.le_of_ble_eq_true rfl, Nat.le_of_ble_eq_true rfl⟩ (P_left hP) (D_left hD) hS (Jn.left hP hD) (fun r110008 σ110009 H locs hP hD hS hp => ?_)
          have hP : va_P D vwCl (WMI k ad g wi z110005 z110006 w2 (σ110009)) H := hP
          have hD : va_D A (WMI k ad g wi z110005 z110006 w2 (σ110009)) := hD
          refine lv_if_eq (tgt := 178) hx hb dX8_isSoundNow_173 (by decide) (fun c110010 => ?_) (fun c110010 => ?_)
          · have hp := hp.1 c110010
            exact B_178 wi z110005 z110006 w2 (σ110009) _ _ _  hP hD hS (lv_sub hl [1, 2] rfl) hp
          · have hp := hp.2 c110010
            have hP := P_left hP
            have hD := D_left hD
            exact B_176  (σ110009) _ _ _  hP hD hS (lv_sub hl [] rfl) hp
  have B_131 : ∀  (σ : Mem) (H : Heap) (locs : List Loc) (ls : Array Slot), va_P D vwCl (WM k ad g (σ)) H → va_D A (WM k ad g (σ)) → va_S A s.heap H locs → lv_has ls 6 [(0, .ref (ad 0))] → (q_X8_isSoundNow_131 (g 0) (g 2) post)  σ → W p l e rm_X8_isSoundNow s m args below meth c H locs 0 0 Q (F0 m 131 ls []) := by
    intro  σ H locs ls hP hD hS hl hp
    unfold q_X8_isSoundNow_131 at hp
    refine lv_aload_n hx hb dX8_isSoundNow_131 rfl (lv_at hl 0 rfl) ?_
    refine va_get (D := D) (ci := 12) (C := RX8) (T := TX8) (N := 15) hx hb hts hin_X8 hown hK hP 0 rfl rfl 4 (by decide) hf_19 (fun _ h9 => h9) rfl dX8_isSoundNow_132 ?_
    refine wm_iter (rest := []) hC (gA_V (a := Cond.code yX8_isSoundNow cX8_isSoundNow 6 (some .boolean)) A_851 A_852 A_853 A_583 A_837) hl.1 rfl (Nat.le_of_ble_eq_true rfl) (Nat.le_of_ble_eq_true rfl) (Nat.le_of_ble_eq_true rfl) dX8_isSoundNow_135 ⟨Nat.le_of_ble_eq_true rfl, Nat.le_of_ble_eq_true rfl⟩ hP hD hS (fun i100001 H locs hP hD hS => ?_)
    have hp := hp i100001
    refine lv_astore_n (lv' := [(3, .ref i100001), (0, .ref (ad 0))]) hx hb dX8_isSoundNow_138 rfl hl (by decide) rfl (fun ls hl => ?_)
    obtain ⟨n9, hp⟩ := hp
    exact B_139 n9 i100001 0 (-1) ((σ) 3 0) (σ) _ _ _  hP hD hS (lv_sub hl [1, 0] rfl) hp
  have B_123 : ∀  (σ : Mem) (H : Heap) (locs : List Loc) (ls : Array Slot), va_P D vwCl (WM k ad g (σ)) H → va_D A (WM k ad g (σ)) → va_S A s.heap H locs → lv_has ls 6 [] → (q_X8_isSoundNow_123 (g 0) (g 2) post)  σ → W p l e rm_X8_isSoundNow s m args below meth c H locs 0 0 Q (F0 m 123 ls []) := by
    intro  σ H locs ls hP hD hS hl hp
    unfold q_X8_isSoundNow_123 at hp
    refine lv_iconst (v := 0) hx hb dX8_isSoundNow_123 (by decide) ?_
    exact hret 0 (σ) _ _ _ _ _ _ dX8_isSoundNow_124 (by decide) hP hD hS (Nat.le_of_ble_eq_true rfl) (Nat.le_of_ble_eq_true rfl) hp
  have B_99 : ∀ (n_99 : Nat) (x3 : Int32) (σ : Mem) (H : Heap) (locs : List Loc) (ls : Array Slot), va_P D vwCl (WM k ad g (σ)) H → va_D A (WM k ad g (σ)) → va_S A s.heap H locs → lv_has ls 6 [(0, .ref (ad 0)), (3, .int x3)] → lp_2 (q_X8_isSoundNow_99 (g 0) (g 2) post (q_X8_isSoundNow_123 (g 0) (g 2) post) (q_X8_isSoundNow_131 (g 0) (g 2) post)) n_99 x3 σ → W p l e rm_X8_isSoundNow s m args below meth c H locs 0 0 Q (F0 m 99 ls []) := by
    intro n_99
    induction n_99 with
    | zero => intro x3 σ H locs ls hP hD hS hl hp; exact hp.elim
    | succ n_99 ih_99 =>
      have B_125 : ∀ (x3 : Int32) (σ : Mem) (H : Heap) (locs : List Loc) (ls : Array Slot), va_P D vwCl (WM k ad g (σ)) H → va_D A (WM k ad g (σ)) → va_S A s.heap H locs → lv_has ls 6 [(0, .ref (ad 0)), (3, .int x3)] → (q_X8_isSoundNow_125 (g 0) (g 2) post (q_X8_isSoundNow_123 (g 0) (g 2) post) (q_X8_isSoundNow_131 (g 0) (g 2) post) (lp_2 (q_X8_isSoundNow_99 (g 0) (g 2) post (q_X8_isSoundNow_123 (g 0) (g 2) post) (q_X8_isSoundNow_131 (g 0) (g 2) post)) n_99)) x3 σ → W p l e rm_X8_isSoundNow s m args below meth c H locs 0 0 Q (F0 m 125 ls []) := by
        intro x3 σ H locs ls hP hD hS hl hp
        unfold q_X8_isSoundNow_125 at hp
        obtain ⟨v90001, ev90001⟩ : ∃ z : Int32, z = x3 + 1 := ⟨_, rfl⟩
        have hp := hp v90001 ev90001
        refine lv_iinc (v := v90001) (lv' := [(3, .int v90001), (0, .ref (ad 0))]) hx hb dX8_isSoundNow_125 hl (k := 1) rfl (by rw [ev90001]; rfl) (by decide) rfl (fun ls hl => ?_)
        refine lv_goto (tgt := 99) hx hb dX8_isSoundNow_128 (by decide) ?_
        exact ih_99 v90001 (σ) _ _ _  hP hD hS (lv_sub hl [1, 0] rfl) hp
      intro x3 σ H locs ls hP hD hS hl hp
      have hp : q_X8_isSoundNow_99 (g 0) (g 2) post (q_X8_isSoundNow_123 (g 0) (g 2) post) (q_X8_isSoundNow_131 (g 0) (g 2) post) (lp_2 (q_X8_isSoundNow_99 (g 0) (g 2) post (q_X8_isSoundNow_123 (g 0) (g 2) post) (q_X8_isSoundNow_131 (g 0) (g 2) post)) n_99) x3 σ := hp
      unfold q_X8_isSoundNow_99 at hp
      refine lv_iload_n hx hb dX8_isSoundNow_99 rfl (lv_at hl 1 rfl) ?_
      refine lv_bipush (v := 6) hx hb dX8_isSoundNow_100 (by decide) ?_
      refine lv_icmp_ge (tgt := 131) hx hb dX8_isSoundNow_102 (by decide) (fun c70001 => ?_) (fun c70001 => ?_)
      · have hp := hp.1 c70001
        exact B_131  (σ) _ _ _  hP hD hS (lv_sub hl [0] rfl) hp
      · have hp := hp.2 c70001
        refine lv_aload_n hx hb dX8_isSoundNow_105 rfl (lv_at hl 0 rfl) ?_
        refine va_get (D := D) (ci := 12) (C := RX8) (T := TX8) (N := 15) hx hb hts hin_X8 hown hK hP 0 rfl rfl 6 (by decide) hf_26 (fun _ h9 => h9) rfl dX8_isSoundNow_106 ?_
        refine lv_iload_n hx hb dX8_isSoundNow_109 rfl (lv_at hl 1 rfl) ?_
        obtain ⟨h70002, hp⟩ := hp
        refine va_iald hx hb hK hP 5 0 rfl rfl h70002 dX8_isSoundNow_110 ?_
        refine lv_iconst (v := (-1)) hx hb dX8_isSoundNow_111 (by decide) ?_
        refine lv_icmp_ne (tgt := 125) hx hb dX8_isSoundNow_112 (by decide) (fun c70003 => ?_) (fun c70003 => ?_)
        · have hp := hp.1 c70003
          exact B_125 x3 (σ) _ _ _  hP hD hS (lv_sub hl [0, 1] rfl) hp
        · have hp := hp.2 c70003
          refine lv_aload_n hx hb dX8_isSoundNow_115 rfl (lv_at hl 0 rfl) ?_
          refine lv_iload_n hx hb dX8_isSoundNow_116 rfl (lv_at hl 1 rfl) ?_
          refine fw_ciV (As := [.int x3]) (rest := []) hC (c_X8_drifting l D k ad g hg hp) (cwV 1 hts (gA_V A_788 A_789 A_790 A_601 A_787) rfl rfl rfl (by decide +kernel) ⟨Nat.le_of_ble_eq_true rfl, Nat.le_of_ble_eq_true rfl⟩) (va_recv hK hP (ci := 12) (q0 := 0) rfl rfl) rfl hl.1 rfl (Nat.le_of_ble_eq_true rfl) dX8_isSoundNow_117 ⟨Nat.le_of_ble_eq_true rfl, Nat.le_of_ble_eq_true rfl⟩ hP hD hS Jn.same (fun r70004 σ70005 H locs hP hD hS hp => ?_)
          have hP : va_P D vwCl (WM k ad g (σ70005)) H := hP
          have hD : va_D A (WM k ad g (σ70005)) := hD
          refine lv_if_eq (tgt := 125) hx hb dX8_isSoundNow_120 (by decide) (fun c70006 => ?_) (fun c70006 => ?_)
          · have hp := hp.1 c70006
            exact B_125 x3 (σ70005) _ _ _  hP hD hS (lv_sub hl [0, 1] rfl) hp
          · have hp := hp.2 c70006
            exact B_123  (σ70005) _ _ _  hP hD hS (lv_sub hl [] rfl) hp
  have B_97 : ∀  (σ : Mem) (H : Heap) (locs : List Loc) (ls : Array Slot), va_P D vwCl (WM k ad g (σ)) H → va_D A (WM k ad g (σ)) → va_S A s.heap H locs → lv_has ls 6 [(0, .ref (ad 0))] → (q_X8_isSoundNow_97 (g 0) (g 2) post)  σ → W p l e rm_X8_isSoundNow s m args below meth c H locs 0 0 Q (F0 m 97 ls []) := by
    intro  σ H locs ls hP hD hS hl hp
    unfold q_X8_isSoundNow_97 at hp
    refine lv_iconst (v := 0) hx hb dX8_isSoundNow_97 (by decide) ?_
    refine lv_istore_n (lv' := [(3, .int 0), (0, .ref (ad 0))]) hx hb dX8_isSoundNow_98 rfl hl (by decide) rfl (fun ls hl => ?_)
    obtain ⟨n9, hp⟩ := hp
    exact B_99 n9 0 (σ) _ _ _  hP hD hS (lv_sub hl [1, 0] rfl) hp
  have B_76 : ∀ (x1 : Int32) (σ : Mem) (H : Heap) (locs : List Loc) (ls : Array Slot), va_P D vwCl (WM k ad g (σ)) H → va_D A (WM k ad g (σ)) → va_S A s.heap H locs → lv_has ls 6 [(0, .ref (ad 0)), (1, .int x1)] → (q_X8_isSoundNow_76 (g 0) (g 2) post) x1 σ → W p l e rm_X8_isSoundNow s m args below meth c H locs 0 0 Q (F0 m 76 ls []) := by
    intro x1 σ H locs ls hP hD hS hl hp
    unfold q_X8_isSoundNow_76 at hp
    refine lv_iload_n hx hb dX8_isSoundNow_76 rfl (lv_at hl 1 rfl) ?_
    refine lv_if_eq (tgt := 97) hx hb dX8_isSoundNow_77 (by decide) (fun c50001 => ?_) (fun c50001 => ?_)
    · have hp := hp.1 c50001
      exact B_97  (σ) _ _ _  hP hD hS (lv_sub hl [0] rfl) hp
    · have hp := hp.2 c50001
      refine lv_aload_n hx hb dX8_isSoundNow_80 rfl (lv_at hl 0 rfl) ?_
      refine lv_iconst (v := (-1)) hx hb dX8_isSoundNow_81 (by decide) ?_
      refine fw_ciV (As := [.int (-1)]) (rest := []) hC (c_X8_reasonFor l D k ad g hg hp) (cwV 1 hts (gA_V A_816 A_817 A_818 A_601 A_762) rfl rfl rfl (by decide +kernel) ⟨Nat.le_of_ble_eq_true rfl, Nat.le_of_ble_eq_true rfl⟩) (va_recv hK hP (ci := 12) (q0 := 0) rfl rfl) rfl hl.1 rfl (Nat.le_of_ble_eq_true rfl) dX8_isSoundNow_82 ⟨Nat.le_of_ble_eq_true rfl, Nat.le_of_ble_eq_true rfl⟩ hP hD hS Jn.same (fun r50002 σ50003 H locs hP hD hS hp => ?_)
      have hP : va_P D vwCl (WM k ad g (σ50003)) H := hP
      have hD : va_D A (WM k ad g (σ50003)) := hD
      refine lv_istore_n (lv' := [(3, .int r50002), (0, .ref (ad 0)), (1, .int x1)]) hx hb dX8_isSoundNow_85 rfl hl (by decide) rfl (fun ls hl => ?_)
      refine lv_aload_n hx hb dX8_isSoundNow_86 rfl (lv_at hl 1 rfl) ?_
      refine lv_iconst (v := 0) hx hb dX8_isSoundNow_87 (by decide) ?_
      refine lv_iload_n hx hb dX8_isSoundNow_88 rfl (lv_at hl 0 rfl) ?_
      refine fw_ciV (As := [.int 0, .int r50002]) (rest := []) hC (c_X8_meetAnew l D k ad g hg hp) (cwV 2 hts (gA_V A_734 A_735 A_736 A_601 A_724) rfl rfl rfl (by decide +kernel) ⟨Nat.le_of_ble_eq_true rfl, Nat.le_of_ble_eq_true rfl⟩) (va_recv hK hP (ci := 12) (q0 := 0) rfl rfl) rfl hl.1 rfl (Nat.le_of_ble_eq_true rfl) dX8_isSoundNow_89 ⟨Nat.le_of_ble_eq_true rfl, Nat.le_of_ble_eq_true rfl⟩ hP hD hS Jn.same (fun r50004 σ50005 H locs hP hD hS hp => ?_)
      have hP : va_P D vwCl (WM k ad g (σ50005)) H := hP
      have hD : va_D A (WM k ad g (σ50005)) := hD
      refine lv_if_ne (tgt := 97) hx hb dX8_isSoundNow_92 (by decide) (fun c50006 => ?_) (fun c50006 => ?_)
      · have hp := hp.1 c50006
        exact B_97  (σ50005) _ _ _  hP hD hS (lv_sub hl [1] rfl) hp
      · have hp := hp.2 c50006
        refine lv_iconst (v := 0) hx hb dX8_isSoundNow_95 (by decide) ?_
        exact hret 0 (σ50005) _ _ _ _ _ _ dX8_isSoundNow_96 (by decide) hP hD hS (Nat.le_of_ble_eq_true rfl) (Nat.le_of_ble_eq_true rfl) hp
  have B_68 : ∀  (σ : Mem) (H : Heap) (locs : List Loc) (ls : Array Slot), va_P D vwCl (WM k ad g (σ)) H → va_D A (WM k ad g (σ)) → va_S A s.heap H locs → lv_has ls 6 [] → (q_X8_isSoundNow_68 (g 0) (g 2) post)  σ → W p l e rm_X8_isSoundNow s m args below meth c H locs 0 0 Q (F0 m 68 ls []) := by
    intro  σ H locs ls hP hD hS hl hp
    unfold q_X8_isSoundNow_68 at hp
    refine lv_iconst (v := 0) hx hb dX8_isSoundNow_68 (by decide) ?_
    exact hret 0 (σ) _ _ _ _ _ _ dX8_isSoundNow_69 (by decide) hP hD hS (Nat.le_of_ble_eq_true rfl) (Nat.le_of_ble_eq_true rfl) hp
  have B_12 : ∀ (n_12 : Nat) (x1 : Int32) (x2 : Int32) (x3 : Int32) (σ : Mem) (H : Heap) (locs : List Loc) (ls : Array Slot), va_P D vwCl (WM k ad g (σ)) H → va_D A (WM k ad g (σ)) → va_S A s.heap H locs → lv_has ls 6 [(0, .ref (ad 0)), (1, .int x1), (2, .int x2), (3, .int x3)] → lp_4 (q_X8_isSoundNow_12 (g 0) (g 2) post (q_X8_isSoundNow_68 (g 0) (g 2) post) (q_X8_isSoundNow_76 (g 0) (g 2) post)) n_12 x1 x2 x3 σ → W p l e rm_X8_isSoundNow s m args below meth c H locs 0 0 Q (F0 m 12 ls []) := by
    intro n_12
    induction n_12 with
    | zero => intro x1 x2 x3 σ H locs ls hP hD hS hl hp; exact hp.elim
    | succ n_12 ih_12 =>
      have B_70 : ∀ (x1 : Int32) (x2 : Int32) (x3 : Int32) (σ : Mem) (H : Heap) (locs : List Loc) (ls : Array Slot), va_P D vwCl (WM k ad g (σ)) H → va_D A (WM k ad g (σ)) → va_S A s.heap H locs → lv_has ls 6 [(0, .ref (ad 0)), (1, .int x1), (2, .int x2), (3, .int x3)] → (q_X8_isSoundNow_70 (g 0) (g 2) post (q_X8_isSoundNow_68 (g 0) (g 2) post) (q_X8_isSoundNow_76 (g 0) (g 2) post) (lp_4 (q_X8_isSoundNow_12 (g 0) (g 2) post (q_X8_isSoundNow_68 (g 0) (g 2) post) (q_X8_isSoundNow_76 (g 0) (g 2) post)) n_12)) x1 x2 x3 σ → W p l e rm_X8_isSoundNow s m args below meth c H locs 0 0 Q (F0 m 70 ls []) := by
        intro x1 x2 x3 σ H locs ls hP hD hS hl hp
        unfold q_X8_isSoundNow_70 at hp
        obtain ⟨v40001, ev40001⟩ : ∃ z : Int32, z = x3 + 1 := ⟨_, rfl⟩
        have hp := hp v40001 ev40001
        refine lv_iinc (v := v40001) (lv' := [(3, .int v40001), (0, .ref (ad 0)), (1, .int x1), (2, .int x2)]) hx hb dX8_isSoundNow_70 hl (k := 3) rfl (by rw [ev40001]; rfl) (by decide) rfl (fun ls hl => ?_)
        refine lv_goto (tgt := 12) hx hb dX8_isSoundNow_73 (by decide) ?_
        exact ih_12 x1 x2 v40001 (σ) _ _ _  hP hD hS (lv_sub hl [1, 2, 3, 0] rfl) hp
      have B_50 : ∀ (x1 : Int32) (x2 : Int32) (x3 : Int32) (x4 : Int32) (σ : Mem) (H : Heap) (locs : List Loc) (ls : Array Slot), va_P D vwCl (WM k ad g (σ)) H → va_D A (WM k ad g (σ)) → va_S A s.heap H locs → lv_has ls 6 [(0, .ref (ad 0)), (1, .int x1), (2, .int x2), (3, .int x3), (4, .int x4)] → (q_X8_isSoundNow_50 (g 0) (g 2) post (q_X8_isSoundNow_68 (g 0) (g 2) post) (q_X8_isSoundNow_76 (g 0) (g 2) post) (lp_4 (q_X8_isSoundNow_12 (g 0) (g 2) post (q_X8_isSoundNow_68 (g 0) (g 2) post) (q_X8_isSoundNow_76 (g 0) (g 2) post)) n_12)) x1 x2 x3 x4 σ → W p l e rm_X8_isSoundNow s m args below meth c H locs 0 0 Q (F0 m 50 ls []) := by
        intro x1 x2 x3 x4 σ H locs ls hP hD hS hl hp
        unfold q_X8_isSoundNow_50 at hp
        refine lv_iload_n hx hb dX8_isSoundNow_50 rfl (lv_at hl 2 rfl) ?_
        refine lv_if_eq (tgt := 70) hx hb dX8_isSoundNow_51 (by decide) (fun c20001 => ?_) (fun c20001 => ?_)
        · have hp := hp.1 c20001
          exact B_70 x1 x2 x3 (σ) _ _ _  hP hD hS (lv_sub hl [0, 1, 2, 3] rfl) hp
        · have hp := hp.2 c20001
          refine lv_iload hx hb dX8_isSoundNow_54 (lv_at hl 4 rfl) ?_
          refine lv_aload_n hx hb dX8_isSoundNow_56 rfl (lv_at hl 0 rfl) ?_
          refine va_get (D := D) (ci := 12) (C := RX8) (T := TX8) (N := 15) hx hb hts hin_X8 hown hK hP 0 rfl rfl 11 (by decide) hf_38 (fun _ h9 => h9) rfl dX8_isSoundNow_57 ?_
          refine lv_iload_n hx hb dX8_isSoundNow_60 rfl (lv_at hl 3 rfl) ?_
          obtain ⟨h20002, hp⟩ := hp
          refine va_iald hx hb hK hP 9 0 rfl rfl h20002 dX8_isSoundNow_61 ?_
          refine lv_ishr hx hb dX8_isSoundNow_62 ?_
          refine lv_iconst (v := 1) hx hb dX8_isSoundNow_63 (by decide) ?_
          refine lv_iand hx hb dX8_isSoundNow_64 ?_
          refine lv_if_ne (tgt := 70) hx hb dX8_isSoundNow_65 (by decide) (fun c20003 => ?_) (fun c20003 => ?_)
          · have hp := hp.1 c20003
            exact B_70 x1 x2 x3 (σ) _ _ _  hP hD hS (lv_sub hl [0, 1, 2, 3] rfl) hp
          · have hp := hp.2 c20003
            exact B_68  (σ) _ _ _  hP hD hS (lv_sub hl [] rfl) hp
      intro x1 x2 x3 σ H locs ls hP hD hS hl hp
      have hp : q_X8_isSoundNow_12 (g 0) (g 2) post (q_X8_isSoundNow_68 (g 0) (g 2) post) (q_X8_isSoundNow_76 (g 0) (g 2) post) (lp_4 (q_X8_isSoundNow_12 (g 0) (g 2) post (q_X8_isSoundNow_68 (g 0) (g 2) post) (q_X8_isSoundNow_76 (g 0) (g 2) post)) n_12) x1 x2 x3 σ := hp
      unfold q_X8_isSoundNow_12 at hp
      refine lv_iload_n hx hb dX8_isSoundNow_12 rfl (lv_at hl 3 rfl) ?_
      refine lv_aload_n hx hb dX8_isSoundNow_13 rfl (lv_at hl 0 rfl) ?_
      refine va_get (D := D) (ci := 12) (C := RX8) (T := TX8) (N := 15) hx hb hts hin_X8 hown hK hP 0 rfl rfl 3 (by decide) hf_45 (fun _ h9 => h9) rfl dX8_isSoundNow_14 ?_
      refine lv_icmp_ge (tgt := 76) hx hb dX8_isSoundNow_17 (by decide) (fun c10001 => ?_) (fun c10001 => ?_)
      · have hp := hp.1 c10001
        exact B_76 x1 (σ) _ _ _  hP hD hS (lv_sub hl [0, 1] rfl) hp
      · have hp := hp.2 c10001
        refine lv_aload_n hx hb dX8_isSoundNow_20 rfl (lv_at hl 0 rfl) ?_
        refine lv_iload_n hx hb dX8_isSoundNow_21 rfl (lv_at hl 3 rfl) ?_
        refine fw_ciV (As := [.int x3]) (rest := []) hC (c_X8_mayBe l D k ad g hg hp) (cwV 1 hts (gA_V A_799 A_800 A_801 A_601 A_761) rfl rfl rfl (by decide +kernel) ⟨Nat.le_of_ble_eq_true rfl, Nat.le_of_ble_eq_true rfl⟩) (va_recv hK hP (ci := 12) (q0 := 0) rfl rfl) rfl hl.1 rfl (Nat.le_of_ble_eq_true rfl) dX8_isSoundNow_22 ⟨Nat.le_of_ble_eq_true rfl, Nat.le_of_ble_eq_true rfl⟩ hP hD hS Jn.same (fun r10002 σ10003 H locs hP hD hS hp => ?_)
        have hP : va_P D vwCl (WM k ad g (σ10003)) H := hP
        have hD : va_D A (WM k ad g (σ10003)) := hD
        refine lv_istore (lv' := [(4, .int r10002), (0, .ref (ad 0)), (1, .int x1), (2, .int x2), (3, .int x3)]) hx hb dX8_isSoundNow_25 hl (by decide) rfl (fun ls hl => ?_)
        refine lv_aload_n hx hb dX8_isSoundNow_27 rfl (lv_at hl 1 rfl) ?_
        refine lv_iload_n hx hb dX8_isSoundNow_28 rfl (lv_at hl 4 rfl) ?_
        refine fw_ciV (As := [.int x3]) (rest := []) hC (c_X8_whatIs l D k ad g hg hp) (cwV 1 hts (gA_V A_802 A_803 A_804 A_601 A_759) rfl rfl rfl (by decide +kernel) ⟨Nat.le_of_ble_eq_true rfl, Nat.le_of_ble_eq_true rfl⟩) (va_recv hK hP (ci := 12) (q0 := 0) rfl rfl) rfl hl.1 rfl (Nat.le_of_ble_eq_true rfl) dX8_isSoundNow_29 ⟨Nat.le_of_ble_eq_true rfl, Nat.le_of_ble_eq_true rfl⟩ hP hD hS Jn.same (fun r10004 σ10005 H locs hP hD hS hp => ?_)
        have hP : va_P D vwCl (WM k ad g (σ10005)) H := hP
        have hD : va_D A (WM k ad g (σ10005)) := hD
        refine lv_istore (lv' := [(5, .int r10004), (4, .int r10002), (0, .ref (ad 0)), (1, .int x1), (2, .int x2), (3, .int x3)]) hx hb dX8_isSoundNow_32 hl (by decide) rfl (fun ls hl => ?_)
        refine lv_iload hx hb dX8_isSoundNow_34 (lv_at hl 0 rfl) ?_
        refine lv_iconst (v := (-1)) hx hb dX8_isSoundNow_36 (by decide) ?_
        refine lv_icmp_eq (tgt := 50) hx hb dX8_isSoundNow_37 (by decide) (fun c10006 => ?_) (fun c10006 => ?_)
        · have hp := hp.1 c10006
          exact B_50 x1 x2 x3 r10002 (σ10005) _ _ _  hP hD hS (lv_sub hl [2, 3, 4, 5, 1] rfl) hp
        · have hp := hp.2 c10006
          refine lv_iload hx hb dX8_isSoundNow_40 (lv_at hl 1 rfl) ?_
          refine lv_iload hx hb dX8_isSoundNow_42 (lv_at hl 0 rfl) ?_
          refine lv_ishr hx hb dX8_isSoundNow_44 ?_
          refine lv_iconst (v := 1) hx hb dX8_isSoundNow_45 (by decide) ?_
          refine lv_iand hx hb dX8_isSoundNow_46 ?_
          refine lv_if_eq (tgt := 68) hx hb dX8_isSoundNow_47 (by decide) (fun c10007 => ?_) (fun c10007 => ?_)
          · have hp := hp.1 c10007
            exact B_68  (σ10005) _ _ _  hP hD hS (lv_sub hl [] rfl) hp
          · have hp := hp.2 c10007
            exact B_50 x1 x2 x3 r10002 (σ10005) _ _ _  hP hD hS (lv_sub hl [2, 3, 4, 5, 1] rfl) hp
  refine lv_aload_n hx hb dX8_isSoundNow_0 rfl (lv_at hl 0 rfl) ?_
  refine fw_ciV (As := []) (rest := []) hC (c_X8_isContradiction l D k ad g hg hp) (cwV 0 hts (gA_V A_778 A_779 A_780 A_601 A_760) rfl rfl rfl (by decide +kernel) ⟨Nat.le_of_ble_eq_true rfl, Nat.le_of_ble_eq_true rfl⟩) (va_recv hK hP (ci := 12) (q0 := 0) rfl rfl) rfl hl.1 rfl (Nat.le_of_ble_eq_true rfl) dX8_isSoundNow_1 ⟨Nat.le_of_ble_eq_true rfl, Nat.le_of_ble_eq_true rfl⟩ hP hD hS Jn.same (fun r1 σ2 H locs hP hD hS hp => ?_)
  have hP : va_P D vwCl (WM k ad g (σ2)) H := hP
  have hD : va_D A (WM k ad g (σ2)) := hD
  refine lv_istore_n (lv' := [(1, .int r1), (0, .ref (ad 0))]) hx hb dX8_isSoundNow_4 rfl hl (by decide) rfl (fun ls hl => ?_)
  refine lv_aload_n hx hb dX8_isSoundNow_5 rfl (lv_at hl 1 rfl) ?_
  refine fw_ciV (As := []) (rest := []) hC (c_X8_isChosen l D k ad g hg hp) (cwV 0 hts (gA_V A_805 A_806 A_807 A_601 A_773) rfl rfl rfl (by decide +kernel) ⟨Nat.le_of_ble_eq_true rfl, Nat.le_of_ble_eq_true rfl⟩) (va_recv hK hP (ci := 12) (q0 := 0) rfl rfl) rfl hl.1 rfl (Nat.le_of_ble_eq_true rfl) dX8_isSoundNow_6 ⟨Nat.le_of_ble_eq_true rfl, Nat.le_of_ble_eq_true rfl⟩ hP hD hS Jn.same (fun r3 σ4 H locs hP hD hS hp => ?_)
  have hP : va_P D vwCl (WM k ad g (σ4)) H := hP
  have hD : va_D A (WM k ad g (σ4)) := hD
  refine lv_istore_n (lv' := [(2, .int r3), (1, .int r1), (0, .ref (ad 0))]) hx hb dX8_isSoundNow_9 rfl hl (by decide) rfl (fun ls hl => ?_)
  refine lv_iconst (v := 0) hx hb dX8_isSoundNow_10 (by decide) ?_
  refine lv_istore_n (lv' := [(3, .int 0), (2, .int r3), (1, .int r1), (0, .ref (ad 0))]) hx hb dX8_isSoundNow_11 rfl hl (by decide) rfl (fun ls hl => ?_)
  obtain ⟨n9, hp⟩ := hp
  exact B_12 n9 r1 r3 0 (σ4) _ _ _  hP hD hS (lv_sub hl [3, 2, 1, 0] rfl) hp
def q_X8_isSound (n : Nat) (c : Nat) (post : Int32 → Mem → Prop) (σ : Mem) : Prop := (∀ σ1 : Mem, σ1 = mst (σ) 0 0 0 → (q_X8_isSoundNow n c (fun (r2 : Int32) (σ3 : Mem) => (bz r2 ∧ post r2 (σ3))) (σ1)))
abbrev rm_X8_isSound : Room := { frames := 19, cells := 1, slots := 4, locals := 910 }
abbrev wq_X8_isSound : List Cond := Cond.code yX8_isSound cX8_isSound 1 (some .boolean) :: wALL
set_option maxHeartbeats 4000000 in
set_option maxRecDepth 100000 in
theorem c_X8_isSound (l : Launch) (D : va_G) (k ad g : Nat → Nat) (hg : gok g) {sz : Nat} {σ : Mem} {post : Int32 → Mem → Prop} (hp : q_X8_isSound (g 0) (g 2) post σ) : Met l yX8_isSound wq_X8_isSound rm_X8_isSound (va_Pc [.ref (ad 0)] (Pw D k (WM k ad g (σ)) sz)) (va_Qi post (fun u => Bw D (WM k ad g (σ)) sz (WM k ad g u)) (va_A (WM k ad g (σ)) sz)) 1 4 (va_A (WM k ad g (σ)) sz) := by
  refine fw_i (wf := fun u : Mem => WM k ad g u) (by decide) rfl (Nat.le_of_ble_eq_true rfl) ?_
  intro p e s m args below meth c A Q ls hC hP hD hl hret
  obtain ⟨⟨hx, hb, hml, hown, hts⟩, hG, hA⟩ := id hC
  have hK := hG.1
  have hS : va_S A s.heap s.heap [] := va_S.rf
  have hin_X8 : ∀ w ∈ u_ws RX8 TX8 15, w ∈ wq_X8_isSound := fun w h => List.mem_cons_of_mem _ (iU_X8 w h)
  have hf_41 := hts _ (List.mem_cons_of_mem _ A_595)
  have hl : lv_has ls 1 [(0, .ref (ad 0))] := hl
  have hown : s.vm.findClass RX8 = some m.cls := hown
  unfold q_X8_isSound at hp
  refine lv_aload_n hx hb dX8_isSound_0 rfl (lv_at hl 0 rfl) ?_
  refine lv_iconst (v := 0) hx hb dX8_isSound_1 (by decide) ?_
  refine va_put (D := D) (ci := 12) (v := .int 0) (ty := .int) (C := RX8) (T := TX8) (N := 15) hx hb hts hin_X8 tyX8 tyX8_ok nmX8 hown hK hP hD hS 0 rfl rfl 0 (by decide) hf_41 (fun _ h9 => h9) rfl (by decide +kernel) rfl rfl (Nat.le_of_ble_eq_true rfl) dX8_isSound_2 (fun H locs hP hD hS => ?_)
  obtain ⟨σ1, eσ1⟩ : ∃ z : Mem, z = mst (σ) 0 0 0 := ⟨_, rfl⟩
  have hp := hp σ1 eσ1
  have hP : va_P D vwCl (WM k ad g (σ1)) H := by rw [eσ1, WM_s (by decide)]; exact hP
  have hD : va_D A (WM k ad g (σ1)) := by rw [eσ1, WM_s (by decide)]; exact hD
  refine lv_aload_n hx hb dX8_isSound_5 rfl (lv_at hl 0 rfl) ?_
  refine fw_ciV (As := []) (rest := []) hC (c_X8_isSoundNow l D k ad g hg hp) (cwV 0 hts (gA_V A_928 A_929 A_930 A_601 A_927) rfl rfl rfl (by decide +kernel) ⟨Nat.le_of_ble_eq_true rfl, Nat.le_of_ble_eq_true rfl⟩) (va_recv hK hP (ci := 12) (q0 := 0) rfl rfl) rfl hl.1 rfl (Nat.le_of_ble_eq_true rfl) dX8_isSound_6 ⟨Nat.le_of_ble_eq_true rfl, Nat.le_of_ble_eq_true rfl⟩ hP hD hS Jn.same (fun r2 σ3 H locs hP hD hS hp => ?_)
  have hP : va_P D vwCl (WM k ad g (σ3)) H := hP
  have hD : va_D A (WM k ad g (σ3)) := hD
  exact hret r2 (σ3) _ _ _ _ _ _ dX8_isSound_9 hp.1.1 hP hD hS (Nat.le_of_ble_eq_true rfl) (Nat.le_of_ble_eq_true rfl) hp.2
def q_X8_digest_262 (n : Nat) (c : Nat) (post : Int64 → Mem → Prop)  (s0 : Int64) (σ : Mem) : Prop := (q_X8_add n c (fun (σ18002 : Mem) => post (dl64 ((σ18002) 0 14) ((σ18002) 0 15)) (σ18002)) s0 (σ))
def q_X8_digest_249 (n : Nat) (c : Nat) (post : Int64 → Mem → Prop)  (σ : Mem) : Prop := (q_X8_isSoundNow n c (fun (r17001 : Int32) (σ17002 : Mem) => ((r17001 = 0 → (q_X8_digest_262 n c post) 0 (σ17002)) ∧ (¬ (r17001 = 0) → (q_X8_digest_262 n c post) 1 (σ17002)))) (σ))
def q_X8_digest_243 (n : Nat) (c : Nat) (post : Int64 → Mem → Prop) (kE_249 : Mem → Prop) (kc_198 : Int32 → Mem → Prop) (x1 : Int32) (σ : Mem) : Prop := (∀ v16001 : Int32, v16001 = x1 + 1 → kc_198 v16001 (σ))
def q_X8_digest_211 (n : Nat) (c : Nat) (post : Int64 → Mem → Prop) (kE_243 : Int32 → Mem → Prop) (kc_211 : Int32 → Int32 → Mem → Prop) (x1 : Int32) (x2 : Int32) (σ : Mem) : Prop := ((((σ) 0 3) ≤ x2 → kE_243 x1 (σ)) ∧ (¬ (((σ) 0 3) ≤ x2) → (∃ j15002 : Nat, (j15002 < c ∧ x1 = nI j15002) ∧ (vp_in x2 5 ∧ (q_X8_add n c (fun (σ15005 : Mem) => (∀ v15006 : Int32, v15006 = x2 + 1 → kc_211 x1 v15006 (σ15005))) (((σ) (200 + j15002) x2.toNatClampNeg).toInt64) (σ))))))
def q_X8_digest_198 (n : Nat) (c : Nat) (post : Int64 → Mem → Prop) (kE_249 : Mem → Prop) (kc_198 : Int32 → Mem → Prop) (x1 : Int32) (σ : Mem) : Prop := (((nI c) ≤ x1 → kE_249 (σ)) ∧ (¬ ((nI c) ≤ x1) → (∃ n9 : Nat, lp_3 (q_X8_digest_211 n c post (q_X8_digest_243 n c post kE_249 kc_198)) n9 x1 0 (σ))))
def q_X8_digest_196 (n : Nat) (c : Nat) (post : Int64 → Mem → Prop)  (σ : Mem) : Prop := (∃ n9 : Nat, lp_2 (q_X8_digest_198 n c post (q_X8_digest_249 n c post)) n9 0 (σ))
def q_X8_digest_190 (n : Nat) (c : Nat) (post : Int64 → Mem → Prop) (kE_196 : Mem → Prop) (kc_129 : Int32 → Mem → Prop) (x1 : Int32) (σ : Mem) : Prop := (∀ v12001 : Int32, v12001 = x1 + 1 → kc_129 v12001 (σ))
def q_X8_digest_161 (n : Nat) (c : Nat) (post : Int64 → Mem → Prop) (kE_190 : Int32 → Mem → Prop) (kc_161 : Int32 → Int32 → Mem → Prop) (x1 : Int32) (x2 : Int32) (σ : Mem) : Prop := ((((σ) 0 3) ≤ x2 → kE_190 x1 (σ)) ∧ (¬ (((σ) 0 3) ≤ x2) → (vp_in ((x1 * 5) + x2) 30 ∧ (q_X8_add n c (fun (σ11004 : Mem) => (∀ v11005 : Int32, v11005 = x2 + 1 → kc_161 x1 v11005 (σ11004))) (((σ) 6 (((x1 * 5) + x2).toNatClampNeg)).toInt64) (σ)))))
def q_X8_digest_159 (n : Nat) (c : Nat) (post : Int64 → Mem → Prop) (kE_196 : Mem → Prop) (kc_129 : Int32 → Mem → Prop) (x1 : Int32) (σ : Mem) : Prop := (∃ n9 : Nat, lp_3 (q_X8_digest_161 n c post (q_X8_digest_190 n c post kE_196 kc_129)) n9 x1 0 (σ))
def q_X8_digest_137 (n : Nat) (c : Nat) (post : Int64 → Mem → Prop) (kE_159 : Int32 → Mem → Prop) (kc_137 : Int32 → Int32 → Mem → Prop) (x1 : Int32) (x2 : Int32) (σ : Mem) : Prop := ((3 ≤ x2 → kE_159 x1 (σ)) ∧ (¬ (3 ≤ x2) → (q_X8_ofMachineNow n c (fun (r9002 : Int32) (σ9003 : Mem) => (q_X8_add n c (fun (σ9005 : Mem) => (∀ v9006 : Int32, v9006 = x2 + 1 → kc_137 x1 v9006 (σ9005))) (r9002.toInt64) (σ9003))) x1 x2 (σ))))
def q_X8_digest_129 (n : Nat) (c : Nat) (post : Int64 → Mem → Prop) (kE_196 : Mem → Prop) (kc_129 : Int32 → Mem → Prop) (x1 : Int32) (σ : Mem) : Prop := ((6 ≤ x1 → kE_196 (σ)) ∧ (¬ (6 ≤ x1) → (∃ n9 : Nat, lp_3 (q_X8_digest_137 n c post (q_X8_digest_159 n c post kE_196 kc_129)) n9 x1 0 (σ))))
def q_X8_digest_127 (n : Nat) (c : Nat) (post : Int64 → Mem → Prop)  (σ : Mem) : Prop := (∃ n9 : Nat, lp_2 (q_X8_digest_129 n c post (q_X8_digest_196 n c post)) n9 0 (σ))
def q_X8_digest_99 (n : Nat) (c : Nat) (post : Int64 → Mem → Prop) (kE_127 : Mem → Prop) (kc_99 : Int32 → Mem → Prop) (x1 : Int32) (σ : Mem) : Prop := (((nI n) ≤ x1 → kE_127 (σ)) ∧ (¬ ((nI n) ≤ x1) → (q_X8_ofLineNow n c (fun (r6002 : Int32) (σ6003 : Mem) => (q_X8_add n c (fun (σ6005 : Mem) => (∀ v6006 : Int32, v6006 = x1 + 1 → kc_99 v6006 (σ6005))) (r6002.toInt64) (σ6003))) x1 5 (σ))))
def q_X8_digest_87 (n : Nat) (c : Nat) (post : Int64 → Mem → Prop)  (σ : Mem) : Prop := (q_X8_reasonFor n c (fun (r5001 : Int32) (σ5002 : Mem) => (q_X8_add n c (fun (σ5004 : Mem) => (∃ n9 : Nat, lp_2 (q_X8_digest_99 n c post (q_X8_digest_127 n c post)) n9 0 (σ5004))) (r5001.toInt64) (σ5002))) (-1) (σ))
def q_X8_digest_71 (n : Nat) (c : Nat) (post : Int64 → Mem → Prop) (kE_87 : Mem → Prop) (kc_38 : Int32 → Mem → Prop) (x1 : Int32) (σ : Mem) : Prop := (q_X8_reasonFor n c (fun (r4001 : Int32) (σ4002 : Mem) => (q_X8_add n c (fun (σ4004 : Mem) => (∀ v4005 : Int32, v4005 = x1 + 1 → kc_38 v4005 (σ4004))) (r4001.toInt64) (σ4002))) x1 (σ))
def q_X8_digest_48 (n : Nat) (c : Nat) (post : Int64 → Mem → Prop) (kE_71 : Int32 → Mem → Prop) (kc_48 : Int32 → Int32 → Mem → Prop) (x1 : Int32) (x2 : Int32) (σ : Mem) : Prop := ((7 ≤ x2 → kE_71 x1 (σ)) ∧ (¬ (7 ≤ x2) → (q_X8_ofFieldNow n c (fun (r3002 : Int32) (σ3003 : Mem) => (q_X8_add n c (fun (σ3005 : Mem) => (∀ v3006 : Int32, v3006 = x2 + 1 → kc_48 x1 v3006 (σ3005))) (r3002.toInt64) (σ3003))) x1 x2 (σ))))
def q_X8_digest_38 (n : Nat) (c : Nat) (post : Int64 → Mem → Prop) (kE_87 : Mem → Prop) (kc_38 : Int32 → Mem → Prop) (x1 : Int32) (σ : Mem) : Prop := ((((σ) 0 3) ≤ x1 → kE_87 (σ)) ∧ (¬ (((σ) 0 3) ≤ x1) → (∃ n9 : Nat, lp_3 (q_X8_digest_48 n c post (q_X8_digest_71 n c post kE_87 kc_38)) n9 x1 0 (σ))))
def q_X8_digest_36 (n : Nat) (c : Nat) (post : Int64 → Mem → Prop)  (σ : Mem) : Prop := (∃ n9 : Nat, lp_2 (q_X8_digest_38 n c post (q_X8_digest_87 n c post)) n9 0 (σ))
def q_X8_digest (n : Nat) (c : Nat) (post : Int64 → Mem → Prop) (σ : Mem) : Prop := (∀ σ1 : Mem, σ1 = mst (σ) 0 0 0 → (∀ σ2 : Mem, σ2 = mlg (σ1) 0 14 7703 → (q_X8_houseNow n c (fun (r3 : Int32) (σ4 : Mem) => (q_X8_add n c (fun (σ6 : Mem) => (q_X8_houseNow n c (fun (r7 : Int32) (σ8 : Mem) => (q_X8_add n c (fun (σ10 : Mem) => (q_X8_houseNow n c (fun (r11 : Int32) (σ12 : Mem) => (q_X8_add n c (fun (σ14 : Mem) => (q_X8_houseNow n c (fun (r15 : Int32) (σ16 : Mem) => (q_X8_add n c (fun (σ18 : Mem) => (q_X8_houseNow n c (fun (r19 : Int32) (σ20 : Mem) => (q_X8_add n c (fun (σ22 : Mem) => (q_X8_houseNow n c (fun (r23 : Int32) (σ24 : Mem) => (q_X8_add n c (fun (σ26 : Mem) => (q_X8_houseNow n c (fun (r27 : Int32) (σ28 : Mem) => (q_X8_add n c (fun (σ30 : Mem) => (q_X8_houseNow n c (fun (r31 : Int32) (σ32 : Mem) => (q_X8_add n c (fun (σ34 : Mem) => (q_X8_houseNow n c (fun (r35 : Int32) (σ36 : Mem) => (q_X8_add n c (fun (σ38 : Mem) => (q_X8_digest_36 n c post) (σ38)) (r35.toInt64) (σ36))) 8 (σ34))) (r31.toInt64) (σ32))) 7 (σ30))) (r27.toInt64) (σ28))) 6 (σ26))) (r23.toInt64) (σ24))) 5 (σ22))) (r19.toInt64) (σ20))) 4 (σ18))) (r15.toInt64) (σ16))) 3 (σ14))) (r11.toInt64) (σ12))) 2 (σ10))) (r7.toInt64) (σ8))) 1 (σ6))) (r3.toInt64) (σ4))) 0 (σ2))))
abbrev rm_X8_digest : Room := { frames := 19, cells := 10, slots := 40, locals := 910 }
abbrev wq_X8_digest : List Cond := Cond.code yX8_digest cX8_digest 3 (some .long) :: wALL
set_option maxHeartbeats 4000000 in
set_option maxRecDepth 100000 in
theorem c_X8_digest (l : Launch) (D : va_G) (k ad g : Nat → Nat) (hg : gok g) {sz : Nat} {σ : Mem} {post : Int64 → Mem → Prop} (hp : q_X8_digest (g 0) (g 2) post σ) : Met l yX8_digest wq_X8_digest rm_X8_digest (va_Pc [.ref (ad 0)] (Pw D k (WM k ad g (σ)) sz)) (va_Ql post (fun u => Bw D (WM k ad g (σ)) sz (WM k ad g u)) (va_A (WM k ad g (σ)) sz)) 10 40 (va_A (WM k ad g (σ)) sz) := by
  refine fw_l (wf := fun u : Mem => WM k ad g u) (by decide) rfl (Nat.le_of_ble_eq_true rfl) ?_
  intro p e s m args below meth c A Q ls hC hP hD hl hret
  obtain ⟨⟨hx, hb, hml, hown, hts⟩, hG, hA⟩ := id hC
  have hK := hG.1
  have hS : va_S A s.heap s.heap [] := va_S.rf
  have hin_X8 : ∀ w ∈ u_ws RX8 TX8 15, w ∈ wq_X8_digest := fun w h => List.mem_cons_of_mem _ (iU_X8 w h)
  have hf_41 := hts _ (List.mem_cons_of_mem _ A_595)
  have hf_276 := hts _ (List.mem_cons_of_mem _ A_933)
  have hf_45 := hts _ (List.mem_cons_of_mem _ A_598)
  have hf_19 := hts _ (List.mem_cons_of_mem _ A_584)
  have hf_23 := hts _ (List.mem_cons_of_mem _ A_585)
  have hf_29 := hts _ (List.mem_cons_of_mem _ A_587)
  have hl : lv_has ls 3 [(0, .ref (ad 0))] := hl
  have hown : s.vm.findClass RX8 = some m.cls := hown
  unfold q_X8_digest at hp
  have B_262 : ∀ (s0 : Int64) (σ : Mem) (H : Heap) (locs : List Loc) (ls : Array Slot), va_P D vwCl (WM k ad g (σ)) H → va_D A (WM k ad g (σ)) → va_S A s.heap H locs → lv_has ls 3 [(0, .ref (ad 0))] → (q_X8_digest_262 (g 0) (g 2) post) s0 σ → W p l e rm_X8_digest s m args below meth c H locs 10 40 Q (F0 m 262 ls [.long s0, .ref (ad 0)]) := by
    intro s0 σ H locs ls hP hD hS hl hp
    unfold q_X8_digest_262 at hp
    refine fw_cvV (As := [.long s0]) (rest := []) hC (c_X8_add l D k ad g hg hp) (cwV 1 hts (gA_V A_936 A_937 A_938 A_601 A_932) rfl rfl rfl (by decide +kernel) ⟨Nat.le_of_ble_eq_true rfl, Nat.le_of_ble_eq_true rfl⟩) (va_recv hK hP (ci := 12) (q0 := 0) rfl rfl) rfl hl.1 rfl (Nat.le_of_ble_eq_true rfl) dX8_digest_262 ⟨Nat.le_of_ble_eq_true rfl, Nat.le_of_ble_eq_true rfl⟩ hP hD hS Jn.same (fun σ180002 H locs hP hD hS hp => ?_)
    have hP : va_P D vwCl (WM k ad g (σ180002)) H := hP
    have hD : va_D A (WM k ad g (σ180002)) := hD
    refine lv_aload_n hx hb dX8_digest_265 rfl (lv_at hl 0 rfl) ?_
    refine va_get (D := D) (ci := 12) (C := RX8) (T := TX8) (N := 15) hx hb hts hin_X8 hown hK hP 0 rfl rfl 14 (by decide) hf_276 (fun _ h9 => h9) rfl dX8_digest_266 ?_
    exact hret (dl64 ((σ180002) 0 14) ((σ180002) 0 15)) (σ180002) _ _ _ _ _ _ dX8_digest_269 hP hD hS (Nat.le_of_ble_eq_true rfl) (Nat.le_of_ble_eq_true rfl) hp
  have B_249 : ∀  (σ : Mem) (H : Heap) (locs : List Loc) (ls : Array Slot), va_P D vwCl (WM k ad g (σ)) H → va_D A (WM k ad g (σ)) → va_S A s.heap H locs → lv_has ls 3 [(0, .ref (ad 0))] → (q_X8_digest_249 (g 0) (g 2) post)  σ → W p l e rm_X8_digest s m args below meth c H locs 9 36 Q (F0 m 249 ls []) := by
    intro  σ H locs ls hP hD hS hl hp
    unfold q_X8_digest_249 at hp
    refine lv_aload_n hx hb dX8_digest_249 rfl (lv_at hl 0 rfl) ?_
    refine lv_aload_n hx hb dX8_digest_250 rfl (lv_at hl 0 rfl) ?_
    refine fw_ciV (As := []) (rest := [.ref (ad 0)]) hC (c_X8_isSoundNow l D k ad g hg hp) (cwV 0 hts (gA_V A_928 A_929 A_930 A_601 A_927) rfl rfl rfl (by decide +kernel) ⟨Nat.le_of_ble_eq_true rfl, Nat.le_of_ble_eq_true rfl⟩) (va_recv hK hP (ci := 12) (q0 := 0) rfl rfl) rfl hl.1 rfl (Nat.le_of_ble_eq_true rfl) dX8_digest_251 ⟨Nat.le_of_ble_eq_true rfl, Nat.le_of_ble_eq_true rfl⟩ hP hD hS Jn.same (fun r170001 σ170002 H locs hP hD hS hp => ?_)
    have hP : va_P D vwCl (WM k ad g (σ170002)) H := hP
    have hD : va_D A (WM k ad g (σ170002)) := hD
    refine lv_if_eq (tgt := 261) hx hb dX8_digest_254 (by decide) (fun c170003 => ?_) (fun c170003 => ?_)
    · have hp := hp.1 c170003
      refine lv_lconst (v := 0) hx hb dX8_digest_261 (by decide) ?_
      exact B_262 0 (σ170002) _ _ _  hP hD hS (lv_sub hl [0] rfl) hp
    · have hp := hp.2 c170003
      refine lv_lconst (v := 1) hx hb dX8_digest_257 (by decide) ?_
      refine lv_goto (tgt := 262) hx hb dX8_digest_258 (by decide) ?_
      exact B_262 1 (σ170002) _ _ _  hP hD hS (lv_sub hl [0] rfl) hp
  have B_198 : ∀ (n_198 : Nat) (x1 : Int32) (σ : Mem) (H : Heap) (locs : List Loc) (ls : Array Slot), va_P D vwCl (WM k ad g (σ)) H → va_D A (WM k ad g (σ)) → va_S A s.heap H locs → lv_has ls 3 [(0, .ref (ad 0)), (1, .int x1)] → lp_2 (q_X8_digest_198 (g 0) (g 2) post (q_X8_digest_249 (g 0) (g 2) post)) n_198 x1 σ → W p l e rm_X8_digest s m args below meth c H locs 9 36 Q (F0 m 198 ls []) := by
    intro n_198
    induction n_198 with
    | zero => intro x1 σ H locs ls hP hD hS hl hp; exact hp.elim
    | succ n_198 ih_198 =>
      have B_243 : ∀ (x1 : Int32) (σ : Mem) (H : Heap) (locs : List Loc) (ls : Array Slot), va_P D vwCl (WM k ad g (σ)) H → va_D A (WM k ad g (σ)) → va_S A s.heap H locs → lv_has ls 3 [(0, .ref (ad 0)), (1, .int x1)] → (q_X8_digest_243 (g 0) (g 2) post (q_X8_digest_249 (g 0) (g 2) post) (lp_2 (q_X8_digest_198 (g 0) (g 2) post (q_X8_digest_249 (g 0) (g 2) post)) n_198)) x1 σ → W p l e rm_X8_digest s m args below meth c H locs 9 36 Q (F0 m 243 ls []) := by
        intro x1 σ H locs ls hP hD hS hl hp
        unfold q_X8_digest_243 at hp
        obtain ⟨v160001, ev160001⟩ : ∃ z : Int32, z = x1 + 1 := ⟨_, rfl⟩
        have hp := hp v160001 ev160001
        refine lv_iinc (v := v160001) (lv' := [(1, .int v160001), (0, .ref (ad 0))]) hx hb dX8_digest_243 hl (k := 1) rfl (by rw [ev160001]; rfl) (by decide) rfl (fun ls hl => ?_)
        refine lv_goto (tgt := 198) hx hb dX8_digest_246 (by decide) ?_
        exact ih_198 v160001 (σ) _ _ _  hP hD hS (lv_sub hl [1, 0] rfl) hp
      have B_211 : ∀ (n_211 : Nat) (x1 : Int32) (x2 : Int32) (σ : Mem) (H : Heap) (locs : List Loc) (ls : Array Slot), va_P D vwCl (WM k ad g (σ)) H → va_D A (WM k ad g (σ)) → va_S A s.heap H locs → lv_has ls 3 [(0, .ref (ad 0)), (1, .int x1), (2, .int x2)] → lp_3 (q_X8_digest_211 (g 0) (g 2) post (q_X8_digest_243 (g 0) (g 2) post (q_X8_digest_249 (g 0) (g 2) post) (lp_2 (q_X8_digest_198 (g 0) (g 2) post (q_X8_digest_249 (g 0) (g 2) post)) n_198))) n_211 x1 x2 σ → W p l e rm_X8_digest s m args below meth c H locs 9 36 Q (F0 m 211 ls []) := by
        intro n_211
        induction n_211 with
        | zero => intro x1 x2 σ H locs ls hP hD hS hl hp; exact hp.elim
        | succ n_211 ih_211 =>
          intro x1 x2 σ H locs ls hP hD hS hl hp
          have hp : q_X8_digest_211 (g 0) (g 2) post (q_X8_digest_243 (g 0) (g 2) post (q_X8_digest_249 (g 0) (g 2) post) (lp_2 (q_X8_digest_198 (g 0) (g 2) post (q_X8_digest_249 (g 0) (g 2) post)) n_198)) (lp_3 (q_X8_digest_211 (g 0) (g 2) post (q_X8_digest_243 (g 0) (g 2) post (q_X8_digest_249 (g 0) (g 2) post) (lp_2 (q_X8_digest_198 (g 0) (g 2) post (q_X8_digest_249 (g 0) (g 2) post)) n_198))) n_211) x1 x2 σ := hp
          unfold q_X8_digest_211 at hp
          refine lv_iload_n hx hb dX8_digest_211 rfl (lv_at hl 2 rfl) ?_
          refine lv_aload_n hx hb dX8_digest_212 rfl (lv_at hl 0 rfl) ?_
          refine va_get (D := D) (ci := 12) (C := RX8) (T := TX8) (N := 15) hx hb hts hin_X8 hown hK hP 0 rfl rfl 3 (by decide) hf_45 (fun _ h9 => h9) rfl dX8_digest_213 ?_
          refine lv_icmp_ge (tgt := 243) hx hb dX8_digest_216 (by decide) (fun c150001 => ?_) (fun c150001 => ?_)
          · have hp := hp.1 c150001
            exact B_243 x1 (σ) _ _ _  hP hD hS (lv_sub hl [0, 1] rfl) hp
          · have hp := hp.2 c150001
            refine lv_aload_n hx hb dX8_digest_219 rfl (lv_at hl 0 rfl) ?_
            refine lv_aload_n hx hb dX8_digest_220 rfl (lv_at hl 0 rfl) ?_
            refine va_get (D := D) (ci := 12) (C := RX8) (T := TX8) (N := 15) hx hb hts hin_X8 hown hK hP 0 rfl rfl 5 (by decide) hf_23 (fun _ h9 => h9) rfl dX8_digest_221 ?_
            refine lv_iload_n hx hb dX8_digest_224 rfl (lv_at hl 1 rfl) ?_
            obtain ⟨j150002, ⟨hj150002, ej150002⟩, hp⟩ := hp
            refine wm_get_commit (rest := [.ref (ad 0)]) hC hg hj150002 ej150002 (gA_V (a := Cond.code yX8_digest cX8_digest 3 (some .long)) A_621 A_622 A_623 A_583 A_613) hl.1 rfl (Nat.le_of_ble_eq_true rfl) (Nat.le_of_ble_eq_true rfl) (Nat.le_of_ble_eq_true rfl) dX8_digest_225 ⟨Nat.le_of_ble_eq_true rfl, Nat.le_of_ble_eq_true rfl⟩ hP hD hS (fun H locs hP hD hS => ?_)
            refine va_castA hx hb hown (hts _ (List.mem_cons_of_mem _ A_783)) hP (cmP g j150002) (WM_cm k ad g (σ) hj150002) hG.2.1.1 dX8_digest_228 ?_
            refine lv_iload_n hx hb dX8_digest_231 rfl (lv_at hl 2 rfl) ?_
            obtain ⟨h150003, hp⟩ := hp
            refine va_iald hx hb hK hP (cmP g j150002) 0 (WM_cm k ad g (σ) hj150002) rfl h150003 dX8_digest_232 ?_
            refine lv_i2l (v := ((σ) (200 + j150002) x2.toNatClampNeg).toInt64) hx hb dX8_digest_233 rfl ?_
            refine fw_cvV (As := [.long (((σ) (200 + j150002) x2.toNatClampNeg).toInt64)]) (rest := []) hC (c_X8_add l D k ad g hg hp) (cwV 1 hts (gA_V A_936 A_937 A_938 A_601 A_932) rfl rfl rfl (by decide +kernel) ⟨Nat.le_of_ble_eq_true rfl, Nat.le_of_ble_eq_true rfl⟩) (va_recv hK hP (ci := 12) (q0 := 0) rfl rfl) rfl hl.1 rfl (Nat.le_of_ble_eq_true rfl) dX8_digest_234 ⟨Nat.le_of_ble_eq_true rfl, Nat.le_of_ble_eq_true rfl⟩ hP hD hS Jn.same (fun σ150005 H locs hP hD hS hp => ?_)
            have hP : va_P D vwCl (WM k ad g (σ150005)) H := hP
            have hD : va_D A (WM k ad g (σ150005)) := hD
            obtain ⟨v150006, ev150006⟩ : ∃ z : Int32, z = x2 + 1 := ⟨_, rfl⟩
            have hp := hp v150006 ev150006
            refine lv_iinc (v := v150006) (lv' := [(2, .int v150006), (0, .ref (ad 0)), (1, .int x1)]) hx hb dX8_digest_237 hl (k := 2) rfl (by rw [ev150006]; rfl) (by decide) rfl (fun ls hl => ?_)
            refine lv_goto (tgt := 211) hx hb dX8_digest_240 (by decide) ?_
            exact ih_211 x1 v150006 (σ150005) _ _ _  hP hD hS (lv_sub hl [1, 2, 0] rfl) hp
      intro x1 σ H locs ls hP hD hS hl hp
      have hp : q_X8_digest_198 (g 0) (g 2) post (q_X8_digest_249 (g 0) (g 2) post) (lp_2 (q_X8_digest_198 (g 0) (g 2) post (q_X8_digest_249 (g 0) (g 2) post)) n_198) x1 σ := hp
      unfold q_X8_digest_198 at hp
      refine lv_iload_n hx hb dX8_digest_198 rfl (lv_at hl 1 rfl) ?_
      refine lv_aload_n hx hb dX8_digest_199 rfl (lv_at hl 0 rfl) ?_
      refine va_get (D := D) (ci := 12) (C := RX8) (T := TX8) (N := 15) hx hb hts hin_X8 hown hK hP 0 rfl rfl 5 (by decide) hf_23 (fun _ h9 => h9) rfl dX8_digest_200 ?_
      refine wm_size_commit (rest := [.int x1]) hC (gA_V (a := Cond.code yX8_digest cX8_digest 3 (some .long)) A_605 A_606 A_607 A_583 A_602) hl.1 rfl (Nat.le_of_ble_eq_true rfl) (Nat.le_of_ble_eq_true rfl) (Nat.le_of_ble_eq_true rfl) dX8_digest_203 ⟨Nat.le_of_ble_eq_true rfl, Nat.le_of_ble_eq_true rfl⟩ hP hD hS (fun H locs hP hD hS => ?_)
      refine lv_icmp_ge (tgt := 249) hx hb dX8_digest_206 (by decide) (fun c140001 => ?_) (fun c140001 => ?_)
      · have hp := hp.1 c140001
        exact B_249  (σ) _ _ _  hP hD hS (lv_sub hl [0] rfl) hp
      · have hp := hp.2 c140001
        refine lv_iconst (v := 0) hx hb dX8_digest_209 (by decide) ?_
        refine lv_istore_n (lv' := [(2, .int 0), (0, .ref (ad 0)), (1, .int x1)]) hx hb dX8_digest_210 rfl hl (by decide) rfl (fun ls hl => ?_)
        obtain ⟨n9, hp⟩ := hp
        exact B_211 n9 x1 0 (σ) _ _ _  hP hD hS (lv_sub hl [1, 2, 0] rfl) hp
  have B_196 : ∀  (σ : Mem) (H : Heap) (locs : List Loc) (ls : Array Slot), va_P D vwCl (WM k ad g (σ)) H → va_D A (WM k ad g (σ)) → va_S A s.heap H locs → lv_has ls 3 [(0, .ref (ad 0))] → (q_X8_digest_196 (g 0) (g 2) post)  σ → W p l e rm_X8_digest s m args below meth c H locs 9 36 Q (F0 m 196 ls []) := by
    intro  σ H locs ls hP hD hS hl hp
    unfold q_X8_digest_196 at hp
    refine lv_iconst (v := 0) hx hb dX8_digest_196 (by decide) ?_
    refine lv_istore_n (lv' := [(1, .int 0), (0, .ref (ad 0))]) hx hb dX8_digest_197 rfl hl (by decide) rfl (fun ls hl => ?_)
    obtain ⟨n9, hp⟩ := hp
    exact B_198 n9 0 (σ) _ _ _  hP hD hS (lv_sub hl [1, 0] rfl) hp
  have B_129 : ∀ (n_129 : Nat) (x1 : Int32) (σ : Mem) (H : Heap) (locs : List Loc) (ls : Array Slot), va_P D vwCl (WM k ad g (σ)) H → va_D A (WM k ad g (σ)) → va_S A s.heap H locs → lv_has ls 3 [(0, .ref (ad 0)), (1, .int x1)] → lp_2 (q_X8_digest_129 (g 0) (g 2) post (q_X8_digest_196 (g 0) (g 2) post)) n_129 x1 σ → W p l e rm_X8_digest s m args below meth c H locs 9 36 Q (F0 m 129 ls []) := by
    intro n_129
    induction n_129 with
    | zero => intro x1 σ H locs ls hP hD hS hl hp; exact hp.elim
    | succ n_129 ih_129 =>
      have B_190 : ∀ (x1 : Int32) (σ : Mem) (H : Heap) (locs : List Loc) (ls : Array Slot), va_P D vwCl (WM k ad g (σ)) H → va_D A (WM k ad g (σ)) → va_S A s.heap H locs → lv_has ls 3 [(0, .ref (ad 0)), (1, .int x1)] → (q_X8_digest_190 (g 0) (g 2) post (q_X8_digest_196 (g 0) (g 2) post) (lp_2 (q_X8_digest_129 (g 0) (g 2) post (q_X8_digest_196 (g 0) (g 2) post)) n_129)) x1 σ → W p l e rm_X8_digest s m args below meth c H locs 9 36 Q (F0 m 190 ls []) := by
        intro x1 σ H locs ls hP hD hS hl hp
        unfold q_X8_digest_190 at hp
        obtain ⟨v120001, ev120001⟩ : ∃ z : Int32, z = x1 + 1 := ⟨_, rfl⟩
        have hp := hp v120001 ev120001
        refine lv_iinc (v := v120001) (lv' := [(1, .int v120001), (0, .ref (ad 0))]) hx hb dX8_digest_190 hl (k := 1) rfl (by rw [ev120001]; rfl) (by decide) rfl (fun ls hl => ?_)
        refine lv_goto (tgt := 129) hx hb dX8_digest_193 (by decide) ?_
        exact ih_129 v120001 (σ) _ _ _  hP hD hS (lv_sub hl [1, 0] rfl) hp
      have B_161 : ∀ (n_161 : Nat) (x1 : Int32) (x2 : Int32) (σ : Mem) (H : Heap) (locs : List Loc) (ls : Array Slot), va_P D vwCl (WM k ad g (σ)) H → va_D A (WM k ad g (σ)) → va_S A s.heap H locs → lv_has ls 3 [(0, .ref (ad 0)), (1, .int x1), (2, .int x2)] → lp_3 (q_X8_digest_161 (g 0) (g 2) post (q_X8_digest_190 (g 0) (g 2) post (q_X8_digest_196 (g 0) (g 2) post) (lp_2 (q_X8_digest_129 (g 0) (g 2) post (q_X8_digest_196 (g 0) (g 2) post)) n_129))) n_161 x1 x2 σ → W p l e rm_X8_digest s m args below meth c H locs 9 36 Q (F0 m 161 ls []) := by
        intro n_161
        induction n_161 with
        | zero => intro x1 x2 σ H locs ls hP hD hS hl hp; exact hp.elim
        | succ n_161 ih_161 =>
          intro x1 x2 σ H locs ls hP hD hS hl hp
          have hp : q_X8_digest_161 (g 0) (g 2) post (q_X8_digest_190 (g 0) (g 2) post (q_X8_digest_196 (g 0) (g 2) post) (lp_2 (q_X8_digest_129 (g 0) (g 2) post (q_X8_digest_196 (g 0) (g 2) post)) n_129)) (lp_3 (q_X8_digest_161 (g 0) (g 2) post (q_X8_digest_190 (g 0) (g 2) post (q_X8_digest_196 (g 0) (g 2) post) (lp_2 (q_X8_digest_129 (g 0) (g 2) post (q_X8_digest_196 (g 0) (g 2) post)) n_129))) n_161) x1 x2 σ := hp
          unfold q_X8_digest_161 at hp
          refine lv_iload_n hx hb dX8_digest_161 rfl (lv_at hl 2 rfl) ?_
          refine lv_aload_n hx hb dX8_digest_162 rfl (lv_at hl 0 rfl) ?_
          refine va_get (D := D) (ci := 12) (C := RX8) (T := TX8) (N := 15) hx hb hts hin_X8 hown hK hP 0 rfl rfl 3 (by decide) hf_45 (fun _ h9 => h9) rfl dX8_digest_163 ?_
          refine lv_icmp_ge (tgt := 190) hx hb dX8_digest_166 (by decide) (fun c110001 => ?_) (fun c110001 => ?_)
          · have hp := hp.1 c110001
            exact B_190 x1 (σ) _ _ _  hP hD hS (lv_sub hl [0, 1] rfl) hp
          · have hp := hp.2 c110001
            refine lv_aload_n hx hb dX8_digest_169 rfl (lv_at hl 0 rfl) ?_
            refine lv_aload_n hx hb dX8_digest_170 rfl (lv_at hl 0 rfl) ?_
            refine va_get (D := D) (ci := 12) (C := RX8) (T := TX8) (N := 15) hx hb hts hin_X8 hown hK hP 0 rfl rfl 7 (by decide) hf_29 (fun _ h9 => h9) rfl dX8_digest_171 ?_
            refine lv_iload_n hx hb dX8_digest_174 rfl (lv_at hl 1 rfl) ?_
            refine lv_iconst (v := 5) hx hb dX8_digest_175 (by decide) ?_
            refine lv_imul hx hb dX8_digest_176 ?_
            refine lv_iload_n hx hb dX8_digest_177 rfl (lv_at hl 2 rfl) ?_
            refine lv_iadd hx hb dX8_digest_178 ?_
            obtain ⟨h110002, hp⟩ := hp
            refine va_iald hx hb hK hP 6 0 rfl rfl h110002 dX8_digest_179 ?_
            refine lv_i2l (v := ((σ) 6 (((x1 * 5) + x2).toNatClampNeg)).toInt64) hx hb dX8_digest_180 rfl ?_
            refine fw_cvV (As := [.long (((σ) 6 (((x1 * 5) + x2).toNatClampNeg)).toInt64)]) (rest := []) hC (c_X8_add l D k ad g hg hp) (cwV 1 hts (gA_V A_936 A_937 A_938 A_601 A_932) rfl rfl rfl (by decide +kernel) ⟨Nat.le_of_ble_eq_true rfl, Nat.le_of_ble_eq_true rfl⟩) (va_recv hK hP (ci := 12) (q0 := 0) rfl rfl) rfl hl.1 rfl (Nat.le_of_ble_eq_true rfl) dX8_digest_181 ⟨Nat.le_of_ble_eq_true rfl, Nat.le_of_ble_eq_true rfl⟩ hP hD hS Jn.same (fun σ110004 H locs hP hD hS hp => ?_)
            have hP : va_P D vwCl (WM k ad g (σ110004)) H := hP
            have hD : va_D A (WM k ad g (σ110004)) := hD
            obtain ⟨v110005, ev110005⟩ : ∃ z : Int32, z = x2 + 1 := ⟨_, rfl⟩
            have hp := hp v110005 ev110005
            refine lv_iinc (v := v110005) (lv' := [(2, .int v110005), (0, .ref (ad 0)), (1, .int x1)]) hx hb dX8_digest_184 hl (k := 2) rfl (by rw [ev110005]; rfl) (by decide) rfl (fun ls hl => ?_)
            refine lv_goto (tgt := 161) hx hb dX8_digest_187 (by decide) ?_
            exact ih_161 x1 v110005 (σ110004) _ _ _  hP hD hS (lv_sub hl [1, 2, 0] rfl) hp
      have B_159 : ∀ (x1 : Int32) (σ : Mem) (H : Heap) (locs : List Loc) (ls : Array Slot), va_P D vwCl (WM k ad g (σ)) H → va_D A (WM k ad g (σ)) → va_S A s.heap H locs → lv_has ls 3 [(0, .ref (ad 0)), (1, .int x1)] → (q_X8_digest_159 (g 0) (g 2) post (q_X8_digest_196 (g 0) (g 2) post) (lp_2 (q_X8_digest_129 (g 0) (g 2) post (q_X8_digest_196 (g 0) (g 2) post)) n_129)) x1 σ → W p l e rm_X8_digest s m args below meth c H locs 9 36 Q (F0 m 159 ls []) := by
        intro x1 σ H locs ls hP hD hS hl hp
        unfold q_X8_digest_159 at hp
        refine lv_iconst (v := 0) hx hb dX8_digest_159 (by decide) ?_
        refine lv_istore_n (lv' := [(2, .int 0), (0, .ref (ad 0)), (1, .int x1)]) hx hb dX8_digest_160 rfl hl (by decide) rfl (fun ls hl => ?_)
        obtain ⟨n9, hp⟩ := hp
        exact B_161 n9 x1 0 (σ) _ _ _  hP hD hS (lv_sub hl [1, 2, 0] rfl) hp
      have B_137 : ∀ (n_137 : Nat) (x1 : Int32) (x2 : Int32) (σ : Mem) (H : Heap) (locs : List Loc) (ls : Array Slot), va_P D vwCl (WM k ad g (σ)) H → va_D A (WM k ad g (σ)) → va_S A s.heap H locs → lv_has ls 3 [(0, .ref (ad 0)), (1, .int x1), (2, .int x2)] → lp_3 (q_X8_digest_137 (g 0) (g 2) post (q_X8_digest_159 (g 0) (g 2) post (q_X8_digest_196 (g 0) (g 2) post) (lp_2 (q_X8_digest_129 (g 0) (g 2) post (q_X8_digest_196 (g 0) (g 2) post)) n_129))) n_137 x1 x2 σ → W p l e rm_X8_digest s m args below meth c H locs 9 36 Q (F0 m 137 ls []) := by
        intro n_137
        induction n_137 with
        | zero => intro x1 x2 σ H locs ls hP hD hS hl hp; exact hp.elim
        | succ n_137 ih_137 =>
          intro x1 x2 σ H locs ls hP hD hS hl hp
          have hp : q_X8_digest_137 (g 0) (g 2) post (q_X8_digest_159 (g 0) (g 2) post (q_X8_digest_196 (g 0) (g 2) post) (lp_2 (q_X8_digest_129 (g 0) (g 2) post (q_X8_digest_196 (g 0) (g 2) post)) n_129)) (lp_3 (q_X8_digest_137 (g 0) (g 2) post (q_X8_digest_159 (g 0) (g 2) post (q_X8_digest_196 (g 0) (g 2) post) (lp_2 (q_X8_digest_129 (g 0) (g 2) post (q_X8_digest_196 (g 0) (g 2) post)) n_129))) n_137) x1 x2 σ := hp
          unfold q_X8_digest_137 at hp
          refine lv_iload_n hx hb dX8_digest_137 rfl (lv_at hl 2 rfl) ?_
          refine lv_iconst (v := 3) hx hb dX8_digest_138 (by decide) ?_
          refine lv_icmp_ge (tgt := 159) hx hb dX8_digest_139 (by decide) (fun c90001 => ?_) (fun c90001 => ?_)
          · have hp := hp.1 c90001
            exact B_159 x1 (σ) _ _ _  hP hD hS (lv_sub hl [0, 1] rfl) hp
          · have hp := hp.2 c90001
            refine lv_aload_n hx hb dX8_digest_142 rfl (lv_at hl 0 rfl) ?_
            refine lv_aload_n hx hb dX8_digest_143 rfl (lv_at hl 0 rfl) ?_
            refine lv_iload_n hx hb dX8_digest_144 rfl (lv_at hl 1 rfl) ?_
            refine lv_iload_n hx hb dX8_digest_145 rfl (lv_at hl 2 rfl) ?_
            refine fw_ciV (As := [.int x1, .int x2]) (rest := [.ref (ad 0)]) hC (c_X8_ofMachineNow l D k ad g hg hp) (cwV 2 hts (gA_V A_825 A_826 A_827 A_601 A_824) rfl rfl rfl (by decide +kernel) ⟨Nat.le_of_ble_eq_true rfl, Nat.le_of_ble_eq_true rfl⟩) (va_recv hK hP (ci := 12) (q0 := 0) rfl rfl) rfl hl.1 rfl (Nat.le_of_ble_eq_true rfl) dX8_digest_146 ⟨Nat.le_of_ble_eq_true rfl, Nat.le_of_ble_eq_true rfl⟩ hP hD hS Jn.same (fun r90002 σ90003 H locs hP hD hS hp => ?_)
            have hP : va_P D vwCl (WM k ad g (σ90003)) H := hP
            have hD : va_D A (WM k ad g (σ90003)) := hD
            refine lv_i2l (v := r90002.toInt64) hx hb dX8_digest_149 rfl ?_
            refine fw_cvV (As := [.long (r90002.toInt64)]) (rest := []) hC (c_X8_add l D k ad g hg hp) (cwV 1 hts (gA_V A_936 A_937 A_938 A_601 A_932) rfl rfl rfl (by decide +kernel) ⟨Nat.le_of_ble_eq_true rfl, Nat.le_of_ble_eq_true rfl⟩) (va_recv hK hP (ci := 12) (q0 := 0) rfl rfl) rfl hl.1 rfl (Nat.le_of_ble_eq_true rfl) dX8_digest_150 ⟨Nat.le_of_ble_eq_true rfl, Nat.le_of_ble_eq_true rfl⟩ hP hD hS Jn.same (fun σ90005 H locs hP hD hS hp => ?_)
            have hP : va_P D vwCl (WM k ad g (σ90005)) H := hP
            have hD : va_D A (WM k ad g (σ90005)) := hD
            obtain ⟨v90006, ev90006⟩ : ∃ z : Int32, z = x2 + 1 := ⟨_, rfl⟩
            have hp := hp v90006 ev90006
            refine lv_iinc (v := v90006) (lv' := [(2, .int v90006), (0, .ref (ad 0)), (1, .int x1)]) hx hb dX8_digest_153 hl (k := 2) rfl (by rw [ev90006]; rfl) (by decide) rfl (fun ls hl => ?_)
            refine lv_goto (tgt := 137) hx hb dX8_digest_156 (by decide) ?_
            exact ih_137 x1 v90006 (σ90005) _ _ _  hP hD hS (lv_sub hl [1, 2, 0] rfl) hp
      intro x1 σ H locs ls hP hD hS hl hp
      have hp : q_X8_digest_129 (g 0) (g 2) post (q_X8_digest_196 (g 0) (g 2) post) (lp_2 (q_X8_digest_129 (g 0) (g 2) post (q_X8_digest_196 (g 0) (g 2) post)) n_129) x1 σ := hp
      unfold q_X8_digest_129 at hp
      refine lv_iload_n hx hb dX8_digest_129 rfl (lv_at hl 1 rfl) ?_
      refine lv_bipush (v := 6) hx hb dX8_digest_130 (by decide) ?_
      refine lv_icmp_ge (tgt := 196) hx hb dX8_digest_132 (by decide) (fun c80001 => ?_) (fun c80001 => ?_)
      · have hp := hp.1 c80001
        exact B_196  (σ) _ _ _  hP hD hS (lv_sub hl [0] rfl) hp
      · have hp := hp.2 c80001
        refine lv_iconst (v := 0) hx hb dX8_digest_135 (by decide) ?_
        refine lv_istore_n (lv' := [(2, .int 0), (0, .ref (ad 0)), (1, .int x1)]) hx hb dX8_digest_136 rfl hl (by decide) rfl (fun ls hl => ?_)
        obtain ⟨n9, hp⟩ := hp
        exact B_137 n9 x1 0 (σ) _ _ _  hP hD hS (lv_sub hl [1, 2, 0] rfl) hp
  have B_127 : ∀  (σ : Mem) (H : Heap) (locs : List Loc) (ls : Array Slot), va_P D vwCl (WM k ad g (σ)) H → va_D A (WM k ad g (σ)) → va_S A s.heap H locs → lv_has ls 3 [(0, .ref (ad 0))] → (q_X8_digest_127 (g 0) (g 2) post)  σ → W p l e rm_X8_digest s m args below meth c H locs 9 36 Q (F0 m 127 ls []) := by
    intro  σ H locs ls hP hD hS hl hp
    unfold q_X8_digest_127 at hp
    refine lv_iconst (v := 0) hx hb dX8_digest_127 (by decide) ?_
    refine lv_istore_n (lv' := [(1, .int 0), (0, .ref (ad 0))]) hx hb dX8_digest_128 rfl hl (by decide) rfl (fun ls hl => ?_)
    obtain ⟨n9, hp⟩ := hp
    exact B_129 n9 0 (σ) _ _ _  hP hD hS (lv_sub hl [1, 0] rfl) hp
  have B_99 : ∀ (n_99 : Nat) (x1 : Int32) (σ : Mem) (H : Heap) (locs : List Loc) (ls : Array Slot), va_P D vwCl (WM k ad g (σ)) H → va_D A (WM k ad g (σ)) → va_S A s.heap H locs → lv_has ls 3 [(0, .ref (ad 0)), (1, .int x1)] → lp_2 (q_X8_digest_99 (g 0) (g 2) post (q_X8_digest_127 (g 0) (g 2) post)) n_99 x1 σ → W p l e rm_X8_digest s m args below meth c H locs 9 36 Q (F0 m 99 ls []) := by
    intro n_99
    induction n_99 with
    | zero => intro x1 σ H locs ls hP hD hS hl hp; exact hp.elim
    | succ n_99 ih_99 =>
      intro x1 σ H locs ls hP hD hS hl hp
      have hp : q_X8_digest_99 (g 0) (g 2) post (q_X8_digest_127 (g 0) (g 2) post) (lp_2 (q_X8_digest_99 (g 0) (g 2) post (q_X8_digest_127 (g 0) (g 2) post)) n_99) x1 σ := hp
      unfold q_X8_digest_99 at hp
      refine lv_iload_n hx hb dX8_digest_99 rfl (lv_at hl 1 rfl) ?_
      refine lv_aload_n hx hb dX8_digest_100 rfl (lv_at hl 0 rfl) ?_
      refine va_get (D := D) (ci := 12) (C := RX8) (T := TX8) (N := 15) hx hb hts hin_X8 hown hK hP 0 rfl rfl 4 (by decide) hf_19 (fun _ h9 => h9) rfl dX8_digest_101 ?_
      refine wm_size_line (rest := [.int x1]) hC (gA_V (a := Cond.code yX8_digest cX8_digest 3 (some .long)) A_605 A_606 A_607 A_583 A_602) hl.1 rfl (Nat.le_of_ble_eq_true rfl) (Nat.le_of_ble_eq_true rfl) (Nat.le_of_ble_eq_true rfl) dX8_digest_104 ⟨Nat.le_of_ble_eq_true rfl, Nat.le_of_ble_eq_true rfl⟩ hP hD hS (fun H locs hP hD hS => ?_)
      refine lv_icmp_ge (tgt := 127) hx hb dX8_digest_107 (by decide) (fun c60001 => ?_) (fun c60001 => ?_)
      · have hp := hp.1 c60001
        exact B_127  (σ) _ _ _  hP hD hS (lv_sub hl [0] rfl) hp
      · have hp := hp.2 c60001
        refine lv_aload_n hx hb dX8_digest_110 rfl (lv_at hl 0 rfl) ?_
        refine lv_aload_n hx hb dX8_digest_111 rfl (lv_at hl 0 rfl) ?_
        refine lv_iload_n hx hb dX8_digest_112 rfl (lv_at hl 1 rfl) ?_
        refine lv_iconst (v := 5) hx hb dX8_digest_113 (by decide) ?_
        refine fw_ciV (As := [.int x1, .int 5]) (rest := [.ref (ad 0)]) hC (c_X8_ofLineNow l D k ad g hg hp) (cwV 2 hts (gA_V A_820 A_821 A_822 A_601 A_819) rfl rfl rfl (by decide +kernel) ⟨Nat.le_of_ble_eq_true rfl, Nat.le_of_ble_eq_true rfl⟩) (va_recv hK hP (ci := 12) (q0 := 0) rfl rfl) rfl hl.1 rfl (Nat.le_of_ble_eq_true rfl) dX8_digest_114 ⟨Nat.le_of_ble_eq_true rfl, Nat.le_of_ble_eq_true rfl⟩ hP hD hS Jn.same (fun r60002 σ60003 H locs hP hD hS hp => ?_)
        have hP : va_P D vwCl (WM k ad g (σ60003)) H := hP
        have hD : va_D A (WM k ad g (σ60003)) := hD
        refine lv_i2l (v := r60002.toInt64) hx hb dX8_digest_117 rfl ?_
        refine fw_cvV (As := [.long (r60002.toInt64)]) (rest := []) hC (c_X8_add l D k ad g hg hp) (cwV 1 hts (gA_V A_936 A_937 A_938 A_601 A_932) rfl rfl rfl (by decide +kernel) ⟨Nat.le_of_ble_eq_true rfl, Nat.le_of_ble_eq_true rfl⟩) (va_recv hK hP (ci := 12) (q0 := 0) rfl rfl) rfl hl.1 rfl (Nat.le_of_ble_eq_true rfl) dX8_digest_118 ⟨Nat.le_of_ble_eq_true rfl, Nat.le_of_ble_eq_true rfl⟩ hP hD hS Jn.same (fun σ60005 H locs hP hD hS hp => ?_)
        have hP : va_P D vwCl (WM k ad g (σ60005)) H := hP
        have hD : va_D A (WM k ad g (σ60005)) := hD
        obtain ⟨v60006, ev60006⟩ : ∃ z : Int32, z = x1 + 1 := ⟨_, rfl⟩
        have hp := hp v60006 ev60006
        refine lv_iinc (v := v60006) (lv' := [(1, .int v60006), (0, .ref (ad 0))]) hx hb dX8_digest_121 hl (k := 1) rfl (by rw [ev60006]; rfl) (by decide) rfl (fun ls hl => ?_)
        refine lv_goto (tgt := 99) hx hb dX8_digest_124 (by decide) ?_
        exact ih_99 v60006 (σ60005) _ _ _  hP hD hS (lv_sub hl [1, 0] rfl) hp
  have B_87 : ∀  (σ : Mem) (H : Heap) (locs : List Loc) (ls : Array Slot), va_P D vwCl (WM k ad g (σ)) H → va_D A (WM k ad g (σ)) → va_S A s.heap H locs → lv_has ls 3 [(0, .ref (ad 0))] → (q_X8_digest_87 (g 0) (g 2) post)  σ → W p l e rm_X8_digest s m args below meth c H locs 9 36 Q (F0 m 87 ls []) := by
    intro  σ H locs ls hP hD hS hl hp
    unfold q_X8_digest_87 at hp
    refine lv_aload_n hx hb dX8_digest_87 rfl (lv_at hl 0 rfl) ?_
    refine lv_aload_n hx hb dX8_digest_88 rfl (lv_at hl 0 rfl) ?_
    refine lv_iconst (v := (-1)) hx hb dX8_digest_89 (by decide) ?_
    refine fw_ciV (As := [.int (-1)]) (rest := [.ref (ad 0)]) hC (c_X8_reasonFor l D k ad g hg hp) (cwV 1 hts (gA_V A_816 A_817 A_818 A_601 A_762) rfl rfl rfl (by decide +kernel) ⟨Nat.le_of_ble_eq_true rfl, Nat.le_of_ble_eq_true rfl⟩) (va_recv hK hP (ci := 12) (q0 := 0) rfl rfl) rfl hl.1 rfl (Nat.le_of_ble_eq_true rfl) dX8_digest_90 ⟨Nat.le_of_ble_eq_true rfl, Nat.le_of_ble_eq_true rfl⟩ hP hD hS Jn.same (fun r50001 σ50002 H locs hP hD hS hp => ?_)
    have hP : va_P D vwCl (WM k ad g (σ50002)) H := hP
    have hD : va_D A (WM k ad g (σ50002)) := hD
    refine lv_i2l (v := r50001.toInt64) hx hb dX8_digest_93 rfl ?_
    refine fw_cvV (As := [.long (r50001.toInt64)]) (rest := []) hC (c_X8_add l D k ad g hg hp) (cwV 1 hts (gA_V A_936 A_937 A_938 A_601 A_932) rfl rfl rfl (by decide +kernel) ⟨Nat.le_of_ble_eq_true rfl, Nat.le_of_ble_eq_true rfl⟩) (va_recv hK hP (ci := 12) (q0 := 0) rfl rfl) rfl hl.1 rfl (Nat.le_of_ble_eq_true rfl) dX8_digest_94 ⟨Nat.le_of_ble_eq_true rfl, Nat.le_of_ble_eq_true rfl⟩ hP hD hS Jn.same (fun σ50004 H locs hP hD hS hp => ?_)
    have hP : va_P D vwCl (WM k ad g (σ50004)) H := hP
    have hD : va_D A (WM k ad g (σ50004)) := hD
    refine lv_iconst (v := 0) hx hb dX8_digest_97 (by decide) ?_
    refine lv_istore_n (lv' := [(1, .int 0), (0, .ref (ad 0))]) hx hb dX8_digest_98 rfl hl (by decide) rfl (fun ls hl => ?_)
    obtain ⟨n9, hp⟩ := hp
    exact B_99 n9 0 (σ50004) _ _ _  hP hD hS (lv_sub hl [1, 0] rfl) hp
  have B_38 : ∀ (n_38 : Nat) (x1 : Int32) (σ : Mem) (H : Heap) (locs : List Loc) (ls : Array Slot), va_P D vwCl (WM k ad g (σ)) H → va_D A (WM k ad g (σ)) → va_S A s.heap H locs → lv_has ls 3 [(0, .ref (ad 0)), (1, .int x1)] → lp_2 (q_X8_digest_38 (g 0) (g 2) post (q_X8_digest_87 (g 0) (g 2) post)) n_38 x1 σ → W p l e rm_X8_digest s m args below meth c H locs 9 36 Q (F0 m 38 ls []) := by
    intro n_38
    induction n_38 with
    | zero => intro x1 σ H locs ls hP hD hS hl hp; exact hp.elim
    | succ n_38 ih_38 =>
      have B_71 : ∀ (x1 : Int32) (σ : Mem) (H : Heap) (locs : List Loc) (ls : Array Slot), va_P D vwCl (WM k ad g (σ)) H → va_D A (WM k ad g (σ)) → va_S A s.heap H locs → lv_has ls 3 [(0, .ref (ad 0)), (1, .int x1)] → (q_X8_digest_71 (g 0) (g 2) post (q_X8_digest_87 (g 0) (g 2) post) (lp_2 (q_X8_digest_38 (g 0) (g 2) post (q_X8_digest_87 (g 0) (g 2) post)) n_38)) x1 σ → W p l e rm_X8_digest s m args below meth c H locs 9 36 Q (F0 m 71 ls []) := by
        intro x1 σ H locs ls hP hD hS hl hp
        unfold q_X8_digest_71 at hp
        refine lv_aload_n hx hb dX8_digest_71 rfl (lv_at hl 0 rfl) ?_
        refine lv_aload_n hx hb dX8_digest_72 rfl (lv_at hl 0 rfl) ?_
        refine lv_iload_n hx hb dX8_digest_73 rfl (lv_at hl 1 rfl) ?_
        refine fw_ciV (As := [.int x1]) (rest := [.ref (ad 0)]) hC (c_X8_reasonFor l D k ad g hg hp) (cwV 1 hts (gA_V A_816 A_817 A_818 A_601 A_762) rfl rfl rfl (by decide +kernel) ⟨Nat.le_of_ble_eq_true rfl, Nat.le_of_ble_eq_true rfl⟩) (va_recv hK hP (ci := 12) (q0 := 0) rfl rfl) rfl hl.1 rfl (Nat.le_of_ble_eq_true rfl) dX8_digest_74 ⟨Nat.le_of_ble_eq_true rfl, Nat.le_of_ble_eq_true rfl⟩ hP hD hS Jn.same (fun r40001 σ40002 H locs hP hD hS hp => ?_)
        have hP : va_P D vwCl (WM k ad g (σ40002)) H := hP
        have hD : va_D A (WM k ad g (σ40002)) := hD
        refine lv_i2l (v := r40001.toInt64) hx hb dX8_digest_77 rfl ?_
        refine fw_cvV (As := [.long (r40001.toInt64)]) (rest := []) hC (c_X8_add l D k ad g hg hp) (cwV 1 hts (gA_V A_936 A_937 A_938 A_601 A_932) rfl rfl rfl (by decide +kernel) ⟨Nat.le_of_ble_eq_true rfl, Nat.le_of_ble_eq_true rfl⟩) (va_recv hK hP (ci := 12) (q0 := 0) rfl rfl) rfl hl.1 rfl (Nat.le_of_ble_eq_true rfl) dX8_digest_78 ⟨Nat.le_of_ble_eq_true rfl, Nat.le_of_ble_eq_true rfl⟩ hP hD hS Jn.same (fun σ40004 H locs hP hD hS hp => ?_)
        have hP : va_P D vwCl (WM k ad g (σ40004)) H := hP
        have hD : va_D A (WM k ad g (σ40004)) := hD
        obtain ⟨v40005, ev40005⟩ : ∃ z : Int32, z = x1 + 1 := ⟨_, rfl⟩
        have hp := hp v40005 ev40005
        refine lv_iinc (v := v40005) (lv' := [(1, .int v40005), (0, .ref (ad 0))]) hx hb dX8_digest_81 hl (k := 1) rfl (by rw [ev40005]; rfl) (by decide) rfl (fun ls hl => ?_)
        refine lv_goto (tgt := 38) hx hb dX8_digest_84 (by decide) ?_
        exact ih_38 v40005 (σ40004) _ _ _  hP hD hS (lv_sub hl [1, 0] rfl) hp
      have B_48 : ∀ (n_48 : Nat) (x1 : Int32) (x2 : Int32) (σ : Mem) (H : Heap) (locs : List Loc) (ls : Array Slot), va_P D vwCl (WM k ad g (σ)) H → va_D A (WM k ad g (σ)) → va_S A s.heap H locs → lv_has ls 3 [(0, .ref (ad 0)), (1, .int x1), (2, .int x2)] → lp_3 (q_X8_digest_48 (g 0) (g 2) post (q_X8_digest_71 (g 0) (g 2) post (q_X8_digest_87 (g 0) (g 2) post) (lp_2 (q_X8_digest_38 (g 0) (g 2) post (q_X8_digest_87 (g 0) (g 2) post)) n_38))) n_48 x1 x2 σ → W p l e rm_X8_digest s m args below meth c H locs 9 36 Q (F0 m 48 ls []) := by
        intro n_48
        induction n_48 with
        | zero => intro x1 x2 σ H locs ls hP hD hS hl hp; exact hp.elim
        | succ n_48 ih_48 =>
          intro x1 x2 σ H locs ls hP hD hS hl hp
          have hp : q_X8_digest_48 (g 0) (g 2) post (q_X8_digest_71 (g 0) (g 2) post (q_X8_digest_87 (g 0) (g 2) post) (lp_2 (q_X8_digest_38 (g 0) (g 2) post (q_X8_digest_87 (g 0) (g 2) post)) n_38)) (lp_3 (q_X8_digest_48 (g 0) (g 2) post (q_X8_digest_71 (g 0) (g 2) post (q_X8_digest_87 (g 0) (g 2) post) (lp_2 (q_X8_digest_38 (g 0) (g 2) post (q_X8_digest_87 (g 0) (g 2) post)) n_38))) n_48) x1 x2 σ := hp
          unfold q_X8_digest_48 at hp
          refine lv_iload_n hx hb dX8_digest_48 rfl (lv_at hl 2 rfl) ?_
          refine lv_bipush (v := 7) hx hb dX8_digest_49 (by decide) ?_
          refine lv_icmp_ge (tgt := 71) hx hb dX8_digest_51 (by decide) (fun c30001 => ?_) (fun c30001 => ?_)
          · have hp := hp.1 c30001
            exact B_71 x1 (σ) _ _ _  hP hD hS (lv_sub hl [0, 1] rfl) hp
          · have hp := hp.2 c30001
            refine lv_aload_n hx hb dX8_digest_54 rfl (lv_at hl 0 rfl) ?_
            refine lv_aload_n hx hb dX8_digest_55 rfl (lv_at hl 0 rfl) ?_
            refine lv_iload_n hx hb dX8_digest_56 rfl (lv_at hl 1 rfl) ?_
            refine lv_iload_n hx hb dX8_digest_57 rfl (lv_at hl 2 rfl) ?_
            refine fw_ciV (As := [.int x1, .int x2]) (rest := [.ref (ad 0)]) hC (c_X8_ofFieldNow l D k ad g hg hp) (cwV 2 hts (gA_V A_812 A_813 A_814 A_601 A_811) rfl rfl rfl (by decide +kernel) ⟨Nat.le_of_ble_eq_true rfl, Nat.le_of_ble_eq_true rfl⟩) (va_recv hK hP (ci := 12) (q0 := 0) rfl rfl) rfl hl.1 rfl (Nat.le_of_ble_eq_true rfl) dX8_digest_58 ⟨Nat.le_of_ble_eq_true rfl, Nat.le_of_ble_eq_true rfl⟩ hP hD hS Jn.same (fun r30002 σ30003 H locs hP hD hS hp => ?_)
            have hP : va_P D vwCl (WM k ad g (σ30003)) H := hP
            have hD : va_D A (WM k ad g (σ30003)) := hD
            refine lv_i2l (v := r30002.toInt64) hx hb dX8_digest_61 rfl ?_
            refine fw_cvV (As := [.long (r30002.toInt64)]) (rest := []) hC (c_X8_add l D k ad g hg hp) (cwV 1 hts (gA_V A_936 A_937 A_938 A_601 A_932) rfl rfl rfl (by decide +kernel) ⟨Nat.le_of_ble_eq_true rfl, Nat.le_of_ble_eq_true rfl⟩) (va_recv hK hP (ci := 12) (q0 := 0) rfl rfl) rfl hl.1 rfl (Nat.le_of_ble_eq_true rfl) dX8_digest_62 ⟨Nat.le_of_ble_eq_true rfl, Nat.le_of_ble_eq_true rfl⟩ hP hD hS Jn.same (fun σ30005 H locs hP hD hS hp => ?_)
            have hP : va_P D vwCl (WM k ad g (σ30005)) H := hP
            have hD : va_D A (WM k ad g (σ30005)) := hD
            obtain ⟨v30006, ev30006⟩ : ∃ z : Int32, z = x2 + 1 := ⟨_, rfl⟩
            have hp := hp v30006 ev30006
            refine lv_iinc (v := v30006) (lv' := [(2, .int v30006), (0, .ref (ad 0)), (1, .int x1)]) hx hb dX8_digest_65 hl (k := 2) rfl (by rw [ev30006]; rfl) (by decide) rfl (fun ls hl => ?_)
            refine lv_goto (tgt := 48) hx hb dX8_digest_68 (by decide) ?_
            exact ih_48 x1 v30006 (σ30005) _ _ _  hP hD hS (lv_sub hl [1, 2, 0] rfl) hp
      intro x1 σ H locs ls hP hD hS hl hp
      have hp : q_X8_digest_38 (g 0) (g 2) post (q_X8_digest_87 (g 0) (g 2) post) (lp_2 (q_X8_digest_38 (g 0) (g 2) post (q_X8_digest_87 (g 0) (g 2) post)) n_38) x1 σ := hp
      unfold q_X8_digest_38 at hp
      refine lv_iload_n hx hb dX8_digest_38 rfl (lv_at hl 1 rfl) ?_
      refine lv_aload_n hx hb dX8_digest_39 rfl (lv_at hl 0 rfl) ?_
      refine va_get (D := D) (ci := 12) (C := RX8) (T := TX8) (N := 15) hx hb hts hin_X8 hown hK hP 0 rfl rfl 3 (by decide) hf_45 (fun _ h9 => h9) rfl dX8_digest_40 ?_
      refine lv_icmp_ge (tgt := 87) hx hb dX8_digest_43 (by decide) (fun c20001 => ?_) (fun c20001 => ?_)
      · have hp := hp.1 c20001
        exact B_87  (σ) _ _ _  hP hD hS (lv_sub hl [0] rfl) hp
      · have hp := hp.2 c20001
        refine lv_iconst (v := 0) hx hb dX8_digest_46 (by decide) ?_
        refine lv_istore_n (lv' := [(2, .int 0), (0, .ref (ad 0)), (1, .int x1)]) hx hb dX8_digest_47 rfl hl (by decide) rfl (fun ls hl => ?_)
        obtain ⟨n9, hp⟩ := hp
        exact B_48 n9 x1 0 (σ) _ _ _  hP hD hS (lv_sub hl [1, 2, 0] rfl) hp
  have B_36 : ∀  (σ : Mem) (H : Heap) (locs : List Loc) (ls : Array Slot), va_P D vwCl (WM k ad g (σ)) H → va_D A (WM k ad g (σ)) → va_S A s.heap H locs → lv_has ls 3 [(0, .ref (ad 0))] → (q_X8_digest_36 (g 0) (g 2) post)  σ → W p l e rm_X8_digest s m args below meth c H locs 9 36 Q (F0 m 36 ls []) := by
    intro  σ H locs ls hP hD hS hl hp
    unfold q_X8_digest_36 at hp
    refine lv_iconst (v := 0) hx hb dX8_digest_36 (by decide) ?_
    refine lv_istore_n (lv' := [(1, .int 0), (0, .ref (ad 0))]) hx hb dX8_digest_37 rfl hl (by decide) rfl (fun ls hl => ?_)
    obtain ⟨n9, hp⟩ := hp
    exact B_38 n9 0 (σ) _ _ _  hP hD hS (lv_sub hl [1, 0] rfl) hp
  refine lv_aload_n hx hb dX8_digest_0 rfl (lv_at hl 0 rfl) ?_
  refine lv_iconst (v := 0) hx hb dX8_digest_1 (by decide) ?_
  refine va_put (D := D) (ci := 12) (v := .int 0) (ty := .int) (C := RX8) (T := TX8) (N := 15) hx hb hts hin_X8 tyX8 tyX8_ok nmX8 hown hK hP hD hS 0 rfl rfl 0 (by decide) hf_41 (fun _ h9 => h9) rfl (by decide +kernel) rfl rfl (Nat.le_of_ble_eq_true rfl) dX8_digest_2 (fun H locs hP hD hS => ?_)
  obtain ⟨σ1, eσ1⟩ : ∃ z : Mem, z = mst (σ) 0 0 0 := ⟨_, rfl⟩
  have hp := hp σ1 eσ1
  have hP : va_P D vwCl (WM k ad g (σ1)) H := by rw [eσ1, WM_s (by decide)]; exact hP
  have hD : va_D A (WM k ad g (σ1)) := by rw [eσ1, WM_s (by decide)]; exact hD
  refine lv_aload_n hx hb dX8_digest_5 rfl (lv_at hl 0 rfl) ?_
  refine lv_ldc2 (v := 7703) hx hb hown (hts _ (List.mem_cons_of_mem _ A_935)) dX8_digest_6 ?_
  refine va_put (D := D) (ci := 12) (v := .long 7703) (ty := .long) (C := RX8) (T := TX8) (N := 15) hx hb hts hin_X8 tyX8 tyX8_ok nmX8 hown hK hP hD hS 0 rfl rfl 14 (by decide) hf_276 (fun _ h9 => h9) rfl (by decide +kernel) rfl rfl (Nat.le_of_ble_eq_true rfl) dX8_digest_9 (fun H locs hP hD hS => ?_)
  have hP := hP; have hD := hD
  rw [WM_sum] at hP hD
  obtain ⟨σ2, eσ2⟩ : ∃ z : Mem, z = mlg (σ1) 0 14 7703 := ⟨_, rfl⟩
  have hp := hp σ2 eσ2
  have hP : va_P D vwCl (WM k ad g (σ2)) H := by rw [eσ2]; exact hP
  have hD : va_D A (WM k ad g (σ2)) := by rw [eσ2]; exact hD
  refine lv_iconst (v := 0) hx hb dX8_digest_12 (by decide) ?_
  refine lv_istore_n (lv' := [(1, .int 0), (0, .ref (ad 0))]) hx hb dX8_digest_13 rfl hl (by decide) rfl (fun ls hl => ?_)
  refine lv_iload_n hx hb dX8_digest_14 rfl (lv_at hl 0 rfl) ?_
  refine lv_bipush (v := 9) hx hb dX8_digest_15 (by decide) ?_
  refine lv_icmp_ge (tgt := 36) hx hb dX8_digest_17 (by decide) (fun c9 => absurd c9 (by decide)) (fun _ => ?_)
  refine lv_aload_n hx hb dX8_digest_20 rfl (lv_at hl 1 rfl) ?_
  refine lv_aload_n hx hb dX8_digest_21 rfl (lv_at hl 1 rfl) ?_
  refine lv_iload_n hx hb dX8_digest_22 rfl (lv_at hl 0 rfl) ?_
  refine fw_ciV (As := [.int 0]) (rest := [.ref (ad 0)]) hC (c_X8_houseNow l D k ad g hg hp) (cwV 1 hts (gA_V A_861 A_862 A_863 A_601 A_860) rfl rfl rfl (by decide +kernel) ⟨Nat.le_of_ble_eq_true rfl, Nat.le_of_ble_eq_true rfl⟩) (va_recv hK hP (ci := 12) (q0 := 0) rfl rfl) rfl hl.1 rfl (Nat.le_of_ble_eq_true rfl) dX8_digest_23 ⟨Nat.le_of_ble_eq_true rfl, Nat.le_of_ble_eq_true rfl⟩ hP hD hS Jn.same (fun r3 σ4 H locs hP hD hS hp => ?_)
  have hP : va_P D vwCl (WM k ad g (σ4)) H := hP
  have hD : va_D A (WM k ad g (σ4)) := hD
  refine lv_i2l (v := r3.toInt64) hx hb dX8_digest_26 rfl ?_
  refine fw_cvV (As := [.long (r3.toInt64)]) (rest := []) hC (c_X8_add l D k ad g hg hp) (cwV 1 hts (gA_V A_936 A_937 A_938 A_601 A_932) rfl rfl rfl (by decide +kernel) ⟨Nat.le_of_ble_eq_true rfl, Nat.le_of_ble_eq_true rfl⟩) (va_recv hK hP (ci := 12) (q0 := 0) rfl rfl) rfl hl.1 rfl (Nat.le_of_ble_eq_true rfl) dX8_digest_27 ⟨Nat.le_of_ble_eq_true rfl, Nat.le_of_ble_eq_true rfl⟩ hP hD hS Jn.same (fun σ6 H locs hP hD hS hp => ?_)
  have hP : va_P D vwCl (WM k ad g (σ6)) H := hP
  have hD : va_D A (WM k ad g (σ6)) := hD
  refine lv_iinc (v := 1) (lv' := [(1, .int 1), (0, .ref (ad 0))]) hx hb dX8_digest_30 hl (k := 0) rfl (by decide) (by decide) rfl (fun ls hl => ?_)
  refine lv_goto (tgt := 14) hx hb dX8_digest_33 (by decide) ?_
  refine lv_iload_n hx hb dX8_digest_14 rfl (lv_at hl 0 rfl) ?_
  refine lv_bipush (v := 9) hx hb dX8_digest_15 (by decide) ?_
  refine lv_icmp_ge (tgt := 36) hx hb dX8_digest_17 (by decide) (fun c9 => absurd c9 (by decide)) (fun _ => ?_)
  refine lv_aload_n hx hb dX8_digest_20 rfl (lv_at hl 1 rfl) ?_
  refine lv_aload_n hx hb dX8_digest_21 rfl (lv_at hl 1 rfl) ?_
  refine lv_iload_n hx hb dX8_digest_22 rfl (lv_at hl 0 rfl) ?_
  refine fw_ciV (As := [.int 1]) (rest := [.ref (ad 0)]) hC (c_X8_houseNow l D k ad g hg hp) (cwV 1 hts (gA_V A_861 A_862 A_863 A_601 A_860) rfl rfl rfl (by decide +kernel) ⟨Nat.le_of_ble_eq_true rfl, Nat.le_of_ble_eq_true rfl⟩) (va_recv hK hP (ci := 12) (q0 := 0) rfl rfl) rfl hl.1 rfl (Nat.le_of_ble_eq_true rfl) dX8_digest_23 ⟨Nat.le_of_ble_eq_true rfl, Nat.le_of_ble_eq_true rfl⟩ hP hD hS Jn.same (fun r7 σ8 H locs hP hD hS hp => ?_)
  have hP : va_P D vwCl (WM k ad g (σ8)) H := hP
  have hD : va_D A (WM k ad g (σ8)) := hD
  refine lv_i2l (v := r7.toInt64) hx hb dX8_digest_26 rfl ?_
  refine fw_cvV (As := [.long (r7.toInt64)]) (rest := []) hC (c_X8_add l D k ad g hg hp) (cwV 1 hts (gA_V A_936 A_937 A_938 A_601 A_932) rfl rfl rfl (by decide +kernel) ⟨Nat.le_of_ble_eq_true rfl, Nat.le_of_ble_eq_true rfl⟩) (va_recv hK hP (ci := 12) (q0 := 0) rfl rfl) rfl hl.1 rfl (Nat.le_of_ble_eq_true rfl) dX8_digest_27 ⟨Nat.le_of_ble_eq_true rfl, Nat.le_of_ble_eq_true rfl⟩ hP hD hS Jn.same (fun σ10 H locs hP hD hS hp => ?_)
  have hP : va_P D vwCl (WM k ad g (σ10)) H := hP
  have hD : va_D A (WM k ad g (σ10)) := hD
  refine lv_iinc (v := 2) (lv' := [(1, .int 2), (0, .ref (ad 0))]) hx hb dX8_digest_30 hl (k := 0) rfl (by decide) (by decide) rfl (fun ls hl => ?_)
  refine lv_goto (tgt := 14) hx hb dX8_digest_33 (by decide) ?_
  refine lv_iload_n hx hb dX8_digest_14 rfl (lv_at hl 0 rfl) ?_
  refine lv_bipush (v := 9) hx hb dX8_digest_15 (by decide) ?_
  refine lv_icmp_ge (tgt := 36) hx hb dX8_digest_17 (by decide) (fun c9 => absurd c9 (by decide)) (fun _ => ?_)
  refine lv_aload_n hx hb dX8_digest_20 rfl (lv_at hl 1 rfl) ?_
  refine lv_aload_n hx hb dX8_digest_21 rfl (lv_at hl 1 rfl) ?_
  refine lv_iload_n hx hb dX8_digest_22 rfl (lv_at hl 0 rfl) ?_
  refine fw_ciV (As := [.int 2]) (rest := [.ref (ad 0)]) hC (c_X8_houseNow l D k ad g hg hp) (cwV 1 hts (gA_V A_861 A_862 A_863 A_601 A_860) rfl rfl rfl (by decide +kernel) ⟨Nat.le_of_ble_eq_true rfl, Nat.le_of_ble_eq_true rfl⟩) (va_recv hK hP (ci := 12) (q0 := 0) rfl rfl) rfl hl.1 rfl (Nat.le_of_ble_eq_true rfl) dX8_digest_23 ⟨Nat.le_of_ble_eq_true rfl, Nat.le_of_ble_eq_true rfl⟩ hP hD hS Jn.same (fun r11 σ12 H locs hP hD hS hp => ?_)
  have hP : va_P D vwCl (WM k ad g (σ12)) H := hP
  have hD : va_D A (WM k ad g (σ12)) := hD
  refine lv_i2l (v := r11.toInt64) hx hb dX8_digest_26 rfl ?_
  refine fw_cvV (As := [.long (r11.toInt64)]) (rest := []) hC (c_X8_add l D k ad g hg hp) (cwV 1 hts (gA_V A_936 A_937 A_938 A_601 A_932) rfl rfl rfl (by decide +kernel) ⟨Nat.le_of_ble_eq_true rfl, Nat.le_of_ble_eq_true rfl⟩) (va_recv hK hP (ci := 12) (q0 := 0) rfl rfl) rfl hl.1 rfl (Nat.le_of_ble_eq_true rfl) dX8_digest_27 ⟨Nat.le_of_ble_eq_true rfl, Nat.le_of_ble_eq_true rfl⟩ hP hD hS Jn.same (fun σ14 H locs hP hD hS hp => ?_)
  have hP : va_P D vwCl (WM k ad g (σ14)) H := hP
  have hD : va_D A (WM k ad g (σ14)) := hD
  refine lv_iinc (v := 3) (lv' := [(1, .int 3), (0, .ref (ad 0))]) hx hb dX8_digest_30 hl (k := 0) rfl (by decide) (by decide) rfl (fun ls hl => ?_)
  refine lv_goto (tgt := 14) hx hb dX8_digest_33 (by decide) ?_
  refine lv_iload_n hx hb dX8_digest_14 rfl (lv_at hl 0 rfl) ?_
  refine lv_bipush (v := 9) hx hb dX8_digest_15 (by decide) ?_
  refine lv_icmp_ge (tgt := 36) hx hb dX8_digest_17 (by decide) (fun c9 => absurd c9 (by decide)) (fun _ => ?_)
  refine lv_aload_n hx hb dX8_digest_20 rfl (lv_at hl 1 rfl) ?_
  refine lv_aload_n hx hb dX8_digest_21 rfl (lv_at hl 1 rfl) ?_
  refine lv_iload_n hx hb dX8_digest_22 rfl (lv_at hl 0 rfl) ?_
  refine fw_ciV (As := [.int 3]) (rest := [.ref (ad 0)]) hC (c_X8_houseNow l D k ad g hg hp) (cwV 1 hts (gA_V A_861 A_862 A_863 A_601 A_860) rfl rfl rfl (by decide +kernel) ⟨Nat.le_of_ble_eq_true rfl, Nat.le_of_ble_eq_true rfl⟩) (va_recv hK hP (ci := 12) (q0 := 0) rfl rfl) rfl hl.1 rfl (Nat.le_of_ble_eq_true rfl) dX8_digest_23 ⟨Nat.le_of_ble_eq_true rfl, Nat.le_of_ble_eq_true rfl⟩ hP hD hS Jn.same (fun r15 σ16 H locs hP hD hS hp => ?_)
  have hP : va_P D vwCl (WM k ad g (σ16)) H := hP
  have hD : va_D A (WM k ad g (σ16)) := hD
  refine lv_i2l (v := r15.toInt64) hx hb dX8_digest_26 rfl ?_
  refine fw_cvV (As := [.long (r15.toInt64)]) (rest := []) hC (c_X8_add l D k ad g hg hp) (cwV 1 hts (gA_V A_936 A_937 A_938 A_601 A_932) rfl rfl rfl (by decide +kernel) ⟨Nat.le_of_ble_eq_true rfl, Nat.le_of_ble_eq_true rfl⟩) (va_recv hK hP (ci := 12) (q0 := 0) rfl rfl) rfl hl.1 rfl (Nat.le_of_ble_eq_true rfl) dX8_digest_27 ⟨Nat.le_of_ble_eq_true rfl, Nat.le_of_ble_eq_true rfl⟩ hP hD hS Jn.same (fun σ18 H locs hP hD hS hp => ?_)
  have hP : va_P D vwCl (WM k ad g (σ18)) H := hP
  have hD : va_D A (WM k ad g (σ18)) := hD
  refine lv_iinc (v := 4) (lv' := [(1, .int 4), (0, .ref (ad 0))]) hx hb dX8_digest_30 hl (k := 0) rfl (by decide) (by decide) rfl (fun ls hl => ?_)
  refine lv_goto (tgt := 14) hx hb dX8_digest_33 (by decide) ?_
  refine lv_iload_n hx hb dX8_digest_14 rfl (lv_at hl 0 rfl) ?_
  refine lv_bipush (v := 9) hx hb dX8_digest_15 (by decide) ?_
  refine lv_icmp_ge (tgt := 36) hx hb dX8_digest_17 (by decide) (fun c9 => absurd c9 (by decide)) (fun _ => ?_)
  refine lv_aload_n hx hb dX8_digest_20 rfl (lv_at hl 1 rfl) ?_
  refine lv_aload_n hx hb dX8_digest_21 rfl (lv_at hl 1 rfl) ?_
  refine lv_iload_n hx hb dX8_digest_22 rfl (lv_at hl 0 rfl) ?_
  refine fw_ciV (As := [.int 4]) (rest := [.ref (ad 0)]) hC (c_X8_houseNow l D k ad g hg hp) (cwV 1 hts (gA_V A_861 A_862 A_863 A_601 A_860) rfl rfl rfl (by decide +kernel) ⟨Nat.le_of_ble_eq_true rfl, Nat.le_of_ble_eq_true rfl⟩) (va_recv hK hP (ci := 12) (q0 := 0) rfl rfl) rfl hl.1 rfl (Nat.le_of_ble_eq_true rfl) dX8_digest_23 ⟨Nat.le_of_ble_eq_true rfl, Nat.le_of_ble_eq_true rfl⟩ hP hD hS Jn.same (fun r19 σ20 H locs hP hD hS hp => ?_)
  have hP : va_P D vwCl (WM k ad g (σ20)) H := hP
  have hD : va_D A (WM k ad g (σ20)) := hD
  refine lv_i2l (v := r19.toInt64) hx hb dX8_digest_26 rfl ?_
  refine fw_cvV (As := [.long (r19.toInt64)]) (rest := []) hC (c_X8_add l D k ad g hg hp) (cwV 1 hts (gA_V A_936 A_937 A_938 A_601 A_932) rfl rfl rfl (by decide +kernel) ⟨Nat.le_of_ble_eq_true rfl, Nat.le_of_ble_eq_true rfl⟩) (va_recv hK hP (ci := 12) (q0 := 0) rfl rfl) rfl hl.1 rfl (Nat.le_of_ble_eq_true rfl) dX8_digest_27 ⟨Nat.le_of_ble_eq_true rfl, Nat.le_of_ble_eq_true rfl⟩ hP hD hS Jn.same (fun σ22 H locs hP hD hS hp => ?_)
  have hP : va_P D vwCl (WM k ad g (σ22)) H := hP
  have hD : va_D A (WM k ad g (σ22)) := hD
  refine lv_iinc (v := 5) (lv' := [(1, .int 5), (0, .ref (ad 0))]) hx hb dX8_digest_30 hl (k := 0) rfl (by decide) (by decide) rfl (fun ls hl => ?_)
  refine lv_goto (tgt := 14) hx hb dX8_digest_33 (by decide) ?_
  refine lv_iload_n hx hb dX8_digest_14 rfl (lv_at hl 0 rfl) ?_
  refine lv_bipush (v := 9) hx hb dX8_digest_15 (by decide) ?_
  refine lv_icmp_ge (tgt := 36) hx hb dX8_digest_17 (by decide) (fun c9 => absurd c9 (by decide)) (fun _ => ?_)
  refine lv_aload_n hx hb dX8_digest_20 rfl (lv_at hl 1 rfl) ?_
  refine lv_aload_n hx hb dX8_digest_21 rfl (lv_at hl 1 rfl) ?_
  refine lv_iload_n hx hb dX8_digest_22 rfl (lv_at hl 0 rfl) ?_
  refine fw_ciV (As := [.int 5]) (rest := [.ref (ad 0)]) hC (c_X8_houseNow l D k ad g hg hp) (cwV 1 hts (gA_V A_861 A_862 A_863 A_601 A_860) rfl rfl rfl (by decide +kernel) ⟨Nat.le_of_ble_eq_true rfl, Nat.le_of_ble_eq_true rfl⟩) (va_recv hK hP (ci := 12) (q0 := 0) rfl rfl) rfl hl.1 rfl (Nat.le_of_ble_eq_true rfl) dX8_digest_23 ⟨Nat.le_of_ble_eq_true rfl, Nat.le_of_ble_eq_true rfl⟩ hP hD hS Jn.same (fun r23 σ24 H locs hP hD hS hp => ?_)
  have hP : va_P D vwCl (WM k ad g (σ24)) H := hP
  have hD : va_D A (WM k ad g (σ24)) := hD
  refine lv_i2l (v := r23.toInt64) hx hb dX8_digest_26 rfl ?_
  refine fw_cvV (As := [.long (r23.toInt64)]) (rest := []) hC (c_X8_add l D k ad g hg hp) (cwV 1 hts (gA_V A_936 A_937 A_938 A_601 A_932) rfl rfl rfl (by decide +kernel) ⟨Nat.le_of_ble_eq_true rfl, Nat.le_of_ble_eq_true rfl⟩) (va_recv hK hP (ci := 12) (q0 := 0) rfl rfl) rfl hl.1 rfl (Nat.le_of_ble_eq_true rfl) dX8_digest_27 ⟨Nat.le_of_ble_eq_true rfl, Nat.le_of_ble_eq_true rfl⟩ hP hD hS Jn.same (fun σ26 H locs hP hD hS hp => ?_)
  have hP : va_P D vwCl (WM k ad g (σ26)) H := hP
  have hD : va_D A (WM k ad g (σ26)) := hD
  refine lv_iinc (v := 6) (lv' := [(1, .int 6), (0, .ref (ad 0))]) hx hb dX8_digest_30 hl (k := 0) rfl (by decide) (by decide) rfl (fun ls hl => ?_)
  refine lv_goto (tgt := 14) hx hb dX8_digest_33 (by decide) ?_
  refine lv_iload_n hx hb dX8_digest_14 rfl (lv_at hl 0 rfl) ?_
  refine lv_bipush (v := 9) hx hb dX8_digest_15 (by decide) ?_
  refine lv_icmp_ge (tgt := 36) hx hb dX8_digest_17 (by decide) (fun c9 => absurd c9 (by decide)) (fun _ => ?_)
  refine lv_aload_n hx hb dX8_digest_20 rfl (lv_at hl 1 rfl) ?_
  refine lv_aload_n hx hb dX8_digest_21 rfl (lv_at hl 1 rfl) ?_
  refine lv_iload_n hx hb dX8_digest_22 rfl (lv_at hl 0 rfl) ?_
  refine fw_ciV (As := [.int 6]) (rest := [.ref (ad 0)]) hC (c_X8_houseNow l D k ad g hg hp) (cwV 1 hts (gA_V A_861 A_862 A_863 A_601 A_860) rfl rfl rfl (by decide +kernel) ⟨Nat.le_of_ble_eq_true rfl, Nat.le_of_ble_eq_true rfl⟩) (va_recv hK hP (ci := 12) (q0 := 0) rfl rfl) rfl hl.1 rfl (Nat.le_of_ble_eq_true rfl) dX8_digest_23 ⟨Nat.le_of_ble_eq_true rfl, Nat.le_of_ble_eq_true rfl⟩ hP hD hS Jn.same (fun r27 σ28 H locs hP hD hS hp => ?_)
  have hP : va_P D vwCl (WM k ad g (σ28)) H := hP
  have hD : va_D A (WM k ad g (σ28)) := hD
  refine lv_i2l (v := r27.toInt64) hx hb dX8_digest_26 rfl ?_
  refine fw_cvV (As := [.long (r27.toInt64)]) (rest := []) hC (c_X8_add l D k ad g hg hp) (cwV 1 hts (gA_V A_936 A_937 A_938 A_601 A_932) rfl rfl rfl (by decide +kernel) ⟨Nat.le_of_ble_eq_true rfl, Nat.le_of_ble_eq_true rfl⟩) (va_recv hK hP (ci := 12) (q0 := 0) rfl rfl) rfl hl.1 rfl (Nat.le_of_ble_eq_true rfl) dX8_digest_27 ⟨Nat.le_of_ble_eq_true rfl, Nat.le_of_ble_eq_true rfl⟩ hP hD hS Jn.same (fun σ30 H locs hP hD hS hp => ?_)
  have hP : va_P D vwCl (WM k ad g (σ30)) H := hP
  have hD : va_D A (WM k ad g (σ30)) := hD
  refine lv_iinc (v := 7) (lv' := [(1, .int 7), (0, .ref (ad 0))]) hx hb dX8_digest_30 hl (k := 0) rfl (by decide) (by decide) rfl (fun ls hl => ?_)
  refine lv_goto (tgt := 14) hx hb dX8_digest_33 (by decide) ?_
  refine lv_iload_n hx hb dX8_digest_14 rfl (lv_at hl 0 rfl) ?_
  refine lv_bipush (v := 9) hx hb dX8_digest_15 (by decide) ?_
  refine lv_icmp_ge (tgt := 36) hx hb dX8_digest_17 (by decide) (fun c9 => absurd c9 (by decide)) (fun _ => ?_)
  refine lv_aload_n hx hb dX8_digest_20 rfl (lv_at hl 1 rfl) ?_
  refine lv_aload_n hx hb dX8_digest_21 rfl (lv_at hl 1 rfl) ?_
  refine lv_iload_n hx hb dX8_digest_22 rfl (lv_at hl 0 rfl) ?_
  refine fw_ciV (As := [.int 7]) (rest := [.ref (ad 0)]) hC (c_X8_houseNow l D k ad g hg hp) (cwV 1 hts (gA_V A_861 A_862 A_863 A_601 A_860) rfl rfl rfl (by decide +kernel) ⟨Nat.le_of_ble_eq_true rfl, Nat.le_of_ble_eq_true rfl⟩) (va_recv hK hP (ci := 12) (q0 := 0) rfl rfl) rfl hl.1 rfl (Nat.le_of_ble_eq_true rfl) dX8_digest_23 ⟨Nat.le_of_ble_eq_true rfl, Nat.le_of_ble_eq_true rfl⟩ hP hD hS Jn.same (fun r31 σ32 H locs hP hD hS hp => ?_)
  have hP : va_P D vwCl (WM k ad g (σ32)) H := hP
  have hD : va_D A (WM k ad g (σ32)) := hD
  refine lv_i2l (v := r31.toInt64) hx hb dX8_digest_26 rfl ?_
  refine fw_cvV (As := [.long (r31.toInt64)]) (rest := []) hC (c_X8_add l D k ad g hg hp) (cwV 1 hts (gA_V A_936 A_937 A_938 A_601 A_932) rfl rfl rfl (by decide +kernel) ⟨Nat.le_of_ble_eq_true rfl, Nat.le_of_ble_eq_true rfl⟩) (va_recv hK hP (ci := 12) (q0 := 0) rfl rfl) rfl hl.1 rfl (Nat.le_of_ble_eq_true rfl) dX8_digest_27 ⟨Nat.le_of_ble_eq_true rfl, Nat.le_of_ble_eq_true rfl⟩ hP hD hS Jn.same (fun σ34 H locs hP hD hS hp => ?_)
  have hP : va_P D vwCl (WM k ad g (σ34)) H := hP
  have hD : va_D A (WM k ad g (σ34)) := hD
  refine lv_iinc (v := 8) (lv' := [(1, .int 8), (0, .ref (ad 0))]) hx hb dX8_digest_30 hl (k := 0) rfl (by decide) (by decide) rfl (fun ls hl => ?_)
  refine lv_goto (tgt := 14) hx hb dX8_digest_33 (by decide) ?_
  refine lv_iload_n hx hb dX8_digest_14 rfl (lv_at hl 0 rfl) ?_
  refine lv_bipush (v := 9) hx hb dX8_digest_15 (by decide) ?_
  refine lv_icmp_ge (tgt := 36) hx hb dX8_digest_17 (by decide) (fun c9 => absurd c9 (by decide)) (fun _ => ?_)
  refine lv_aload_n hx hb dX8_digest_20 rfl (lv_at hl 1 rfl) ?_
  refine lv_aload_n hx hb dX8_digest_21 rfl (lv_at hl 1 rfl) ?_
  refine lv_iload_n hx hb dX8_digest_22 rfl (lv_at hl 0 rfl) ?_
  refine fw_ciV (As := [.int 8]) (rest := [.ref (ad 0)]) hC (c_X8_houseNow l D k ad g hg hp) (cwV 1 hts (gA_V A_861 A_862 A_863 A_601 A_860) rfl rfl rfl (by decide +kernel) ⟨Nat.le_of_ble_eq_true rfl, Nat.le_of_ble_eq_true rfl⟩) (va_recv hK hP (ci := 12) (q0 := 0) rfl rfl) rfl hl.1 rfl (Nat.le_of_ble_eq_true rfl) dX8_digest_23 ⟨Nat.le_of_ble_eq_true rfl, Nat.le_of_ble_eq_true rfl⟩ hP hD hS Jn.same (fun r35 σ36 H locs hP hD hS hp => ?_)
  have hP : va_P D vwCl (WM k ad g (σ36)) H := hP
  have hD : va_D A (WM k ad g (σ36)) := hD
  refine lv_i2l (v := r35.toInt64) hx hb dX8_digest_26 rfl ?_
  refine fw_cvV (As := [.long (r35.toInt64)]) (rest := []) hC (c_X8_add l D k ad g hg hp) (cwV 1 hts (gA_V A_936 A_937 A_938 A_601 A_932) rfl rfl rfl (by decide +kernel) ⟨Nat.le_of_ble_eq_true rfl, Nat.le_of_ble_eq_true rfl⟩) (va_recv hK hP (ci := 12) (q0 := 0) rfl rfl) rfl hl.1 rfl (Nat.le_of_ble_eq_true rfl) dX8_digest_27 ⟨Nat.le_of_ble_eq_true rfl, Nat.le_of_ble_eq_true rfl⟩ hP hD hS Jn.same (fun σ38 H locs hP hD hS hp => ?_)
  have hP : va_P D vwCl (WM k ad g (σ38)) H := hP
  have hD : va_D A (WM k ad g (σ38)) := hD
  refine lv_iinc (v := 9) (lv' := [(1, .int 9), (0, .ref (ad 0))]) hx hb dX8_digest_30 hl (k := 0) rfl (by decide) (by decide) rfl (fun ls hl => ?_)
  refine lv_goto (tgt := 14) hx hb dX8_digest_33 (by decide) ?_
  refine lv_iload_n hx hb dX8_digest_14 rfl (lv_at hl 0 rfl) ?_
  refine lv_bipush (v := 9) hx hb dX8_digest_15 (by decide) ?_
  refine lv_icmp_ge (tgt := 36) hx hb dX8_digest_17 (by decide) (fun _ => ?_) (fun c9 => absurd (by decide) c9)
  exact B_36  (σ38) _ _ _  hP hD hS (lv_sub hl [1] rfl) hp
