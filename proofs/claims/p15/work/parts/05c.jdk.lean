def q_J3_checkIndex_8e157_9  (post : Int32 → Mem → Prop)  (x0 : Int32) (x1 : Int32) (σ : Mem) : Prop := False
def q_J3_checkIndex_8e157  (post : Int32 → Mem → Prop) (p1 : Int32) (p2 : Int32) (σ : Mem) : Prop := ((p1 < 0 → (q_J3_checkIndex_8e157_9 post) p1 p2 (σ)) ∧ (¬ (p1 < 0) → ((p1 < p2 → post p1 (σ)) ∧ (¬ (p1 < p2) → (q_J3_checkIndex_8e157_9 post) p1 p2 (σ)))))
abbrev rm_J3_checkIndex_8e157 : Room := { frames := 0, cells := 0, slots := 0, locals := 0 }
abbrev wq_J3_checkIndex_8e157 : List Cond := Cond.code yJ3_checkIndex_8e157 cJ3_checkIndex_8e157 3 (some .int) :: wALL
set_option maxHeartbeats 4000000 in
set_option maxRecDepth 100000 in
theorem c_J3_checkIndex_8e157 (l : Launch) (D : va_G) (k : Nat → Nat) {sz : Nat} {σ : Mem} {p1 : Int32} {p2 : Int32} {post : Int32 → Mem → Prop} (hp : q_J3_checkIndex_8e157 post p1 p2 σ) : Met l yJ3_checkIndex_8e157 wq_J3_checkIndex_8e157 rm_J3_checkIndex_8e157 (va_Pc [.int p1, .int p2, .null] (Pw D k ([]) sz)) (va_Qi post (fun u => Bw D ([]) sz ([])) (va_A [] sz)) 0 0 (va_A [] sz) := by
  refine fw_i (wf := fun u : Mem => []) (by decide) rfl (Nat.le_of_ble_eq_true rfl) ?_
  intro p e s m args below meth c A Q ls hC hP hD hl hret
  obtain ⟨⟨hx, hb, hml, hown, hts⟩, hG, hA⟩ := id hC
  have hK := hG.1
  have hS : va_S A s.heap s.heap [] := va_S.rf
  have hl : lv_has ls 3 [(0, .int p1), (1, .int p2), (2, .null)] := hl
  have hown : s.vm.findClass RJ3 = some m.cls := hown
  unfold q_J3_checkIndex_8e157 at hp
  have B_9 : ∀ (x0 : Int32) (x1 : Int32) (σ : Mem) (H : Heap) (locs : List Loc) (ls : Array Slot), va_P D vwCl ([]) H → va_D A ([]) → va_S A s.heap H locs → lv_has ls 3 [(0, .int x0), (1, .int x1), (2, .null)] → (q_J3_checkIndex_8e157_9 post) x0 x1 σ → W p l e rm_J3_checkIndex_8e157 s m args below meth c H locs 0 0 Q (F0 m 9 ls []) := by
    intro x0 x1 σ H locs ls hP hD hS hl hp
    unfold q_J3_checkIndex_8e157_9 at hp
    refine lv_aload_nN hx hb dJ3_checkIndex_8e157_9 rfl (lv_at hl 2 rfl) ?_
    refine lv_iload_n hx hb dJ3_checkIndex_8e157_10 rfl (lv_at hl 0 rfl) ?_
    refine lv_iload_n hx hb dJ3_checkIndex_8e157_11 rfl (lv_at hl 1 rfl) ?_
    exact hp.elim
  refine lv_iload_n hx hb dJ3_checkIndex_8e157_0 rfl (lv_at hl 0 rfl) ?_
  refine lv_if_lt (tgt := 9) hx hb dJ3_checkIndex_8e157_1 (by decide) (fun c1 => ?_) (fun c1 => ?_)
  · have hp := hp.1 c1
    exact B_9 p1 p2 (σ) _ _ _  hP hD hS (lv_sub hl [0, 1, 2] rfl) hp
  · have hp := hp.2 c1
    refine lv_iload_n hx hb dJ3_checkIndex_8e157_4 rfl (lv_at hl 0 rfl) ?_
    refine lv_iload_n hx hb dJ3_checkIndex_8e157_5 rfl (lv_at hl 1 rfl) ?_
    refine lv_icmp_lt (tgt := 16) hx hb dJ3_checkIndex_8e157_6 (by decide) (fun c2 => ?_) (fun c2 => ?_)
    · have hp := hp.1 c2
      refine lv_iload_n hx hb dJ3_checkIndex_8e157_16 rfl (lv_at hl 0 rfl) ?_
      exact hret p1 (σ) _ _ _ _ _ _ dJ3_checkIndex_8e157_17 rfl hP hD hS (Nat.le_of_ble_eq_true rfl) (Nat.le_of_ble_eq_true rfl) hp
    · have hp := hp.2 c2
      exact B_9 p1 p2 (σ) _ _ _  hP hD hS (lv_sub hl [0, 1, 2] rfl) hp
def q_J15_checkIndex_7cf53  (post : Int32 → Mem → Prop) (p1 : Int32) (p2 : Int32) (σ : Mem) : Prop := (q_J3_checkIndex_8e157 (fun (r1 : Int32) (σ2 : Mem) => post r1 (σ2)) p1 p2 (σ))
abbrev rm_J15_checkIndex_7cf53 : Room := { frames := 1, cells := 0, slots := 0, locals := 22 }
abbrev wq_J15_checkIndex_7cf53 : List Cond := Cond.code yJ15_checkIndex_7cf53 cJ15_checkIndex_7cf53 2 (some .int) :: wALL
set_option maxHeartbeats 4000000 in
set_option maxRecDepth 100000 in
theorem c_J15_checkIndex_7cf53 (l : Launch) (D : va_G) (k : Nat → Nat) {sz : Nat} {σ : Mem} {p1 : Int32} {p2 : Int32} {post : Int32 → Mem → Prop} (hp : q_J15_checkIndex_7cf53 post p1 p2 σ) : Met l yJ15_checkIndex_7cf53 wq_J15_checkIndex_7cf53 rm_J15_checkIndex_7cf53 (va_Pc [.int p1, .int p2] (Pw D k ([]) sz)) (va_Qi post (fun u => Bw D ([]) sz ([])) (va_A [] sz)) 0 0 (va_A [] sz) := by
  refine fw_i (wf := fun u : Mem => []) (by decide) rfl (Nat.le_of_ble_eq_true rfl) ?_
  intro p e s m args below meth c A Q ls hC hP hD hl hret
  obtain ⟨⟨hx, hb, hml, hown, hts⟩, hG, hA⟩ := id hC
  have hK := hG.1
  have hS : va_S A s.heap s.heap [] := va_S.rf
  have hl : lv_has ls 2 [(0, .int p1), (1, .int p2)] := hl
  have hown : s.vm.findClass RJ15 = some m.cls := hown
  unfold q_J15_checkIndex_7cf53 at hp
  refine lv_iload_n hx hb dJ15_checkIndex_7cf53_0 rfl (lv_at hl 0 rfl) ?_
  refine lv_iload_n hx hb dJ15_checkIndex_7cf53_1 rfl (lv_at hl 1 rfl) ?_
  refine lv_null hx hb dJ15_checkIndex_7cf53_2 ?_
  refine fw_ciS (As := [.int p1, .int p2, .null]) (rest := []) hC (c_J3_checkIndex_8e157 l D k hp) (va_cwS 3 hts (gA_S A_611 A_394 A_363 A_391) rfl rfl rfl (by decide +kernel) ⟨Nat.le_of_ble_eq_true rfl, Nat.le_of_ble_eq_true rfl⟩) rfl hl.1 rfl (Nat.le_of_ble_eq_true rfl) dJ15_checkIndex_7cf53_3 ⟨Nat.le_of_ble_eq_true rfl, Nat.le_of_ble_eq_true rfl⟩ hP hD hS Jn.same (fun r1 σ2 H locs hP hD hS hp => ?_)
  exact hret r1 (σ2) _ _ _ _ _ _ dJ15_checkIndex_7cf53_6 rfl hP hD hS (Nat.le_of_ble_eq_true rfl) (Nat.le_of_ble_eq_true rfl) hp
def q_Jx4a65c_size_8abf5  (post : Int32 → Mem → Prop) (σ : Mem) : Prop := post ((σ) 0 2) (σ)
abbrev rm_Jx4a65c_size_8abf5 : Room := { frames := 0, cells := 0, slots := 0, locals := 0 }
abbrev wq_Jx4a65c_size_8abf5 : List Cond := Cond.code yJx4a65c_size_8abf5 cJx4a65c_size_8abf5 1 (some .int) :: wALL
set_option maxHeartbeats 4000000 in
set_option maxRecDepth 100000 in
theorem c_Jx4a65c_size_8abf5 (l : Launch) (D : va_G) (k ad : Nat → Nat) (d : Nat) {sz : Nat} {σ : Mem} {post : Int32 → Mem → Prop} (hp : q_Jx4a65c_size_8abf5 post σ) : Met l yJx4a65c_size_8abf5 wq_Jx4a65c_size_8abf5 rm_Jx4a65c_size_8abf5 (va_Pc [.ref (ad 0)] (Pw D k (WS k ad d (σ)) sz)) (va_Qi post (fun u => Bw D (WS k ad d (σ)) sz (WS k ad d u)) (va_A (WS k ad d (σ)) sz)) 0 0 (va_A (WS k ad d (σ)) sz) := by
  refine fw_i (wf := fun u : Mem => WS k ad d u) (by decide) rfl (Nat.le_of_ble_eq_true rfl) ?_
  intro p e s m args below meth c A Q ls hC hP hD hl hret
  obtain ⟨⟨hx, hb, hml, hown, hts⟩, hG, hA⟩ := id hC
  have hK := hG.1
  have hS : va_S A s.heap s.heap [] := va_S.rf
  have hin_Jx4a65c : ∀ w ∈ u_ws RJx4a65c TJx4a65c 3, w ∈ wq_Jx4a65c_size_8abf5 := fun w h => List.mem_cons_of_mem _ (iU_Jx4a65c w h)
  have hf_48 := hts _ (List.mem_cons_of_mem _ A_603)
  have hl : lv_has ls 1 [(0, .ref (ad 0))] := hl
  have hown : s.vm.findClass RJx4a65c = some m.cls := hown
  unfold q_Jx4a65c_size_8abf5 at hp
  refine lv_aload_n hx hb dJx4a65c_size_8abf5_0 rfl (lv_at hl 0 rfl) ?_
  refine va_get (D := D) (ci := 3) (C := RJx4a65c) (T := TJx4a65c) (N := 3) hx hb hts hin_Jx4a65c hown hK hP 0 rfl rfl 2 (by decide) hf_48 (fun _ h9 => h9) rfl dJx4a65c_size_8abf5_1 ?_
  exact hret ((σ) 0 2) (σ) _ _ _ _ _ _ dJx4a65c_size_8abf5_4 rfl hP hD hS (Nat.le_of_ble_eq_true rfl) (Nat.le_of_ble_eq_true rfl) hp
def q_Jx4a65c_elementData_915e3 (n : Nat) (f : Nat → Option Nat) (post : Nat → Mem → Prop) (p1 : Int32) (σ : Mem) : Prop := (vp_in p1 n ∧ (∃ y2 : Nat, f p1.toNatClampNeg = some y2 ∧ post y2 (σ)))
abbrev rm_Jx4a65c_elementData_915e3 : Room := { frames := 0, cells := 0, slots := 0, locals := 0 }
abbrev wq_Jx4a65c_elementData_915e3 : List Cond := Cond.code yJx4a65c_elementData_915e3 cJx4a65c_elementData_915e3 2 (some (.object "java/lang/Object")) :: wALL
set_option maxHeartbeats 4000000 in
set_option maxRecDepth 100000 in
theorem c_Jx4a65c_elementData_915e3 (l : Launch) (D : va_G) (k ad : Nat → Nat) (n : Nat) (f : Nat → Option Nat) {sz : Nat} {σ : Mem} {p1 : Int32} {post : Nat → Mem → Prop} (hp : q_Jx4a65c_elementData_915e3 n f post p1 σ) : Met l yJx4a65c_elementData_915e3 wq_Jx4a65c_elementData_915e3 rm_Jx4a65c_elementData_915e3 (va_Pc [.ref (ad 0), .int p1] (Pw D k (WL k ad n f (σ)) sz)) (va_Qr (fun z : Nat × Mem => post z.1 z.2) (fun z a t => a = z.1 ∧ Bw D (WL k ad n f (σ)) sz (WL k ad n f z.2) t) (va_A (WL k ad n f (σ)) sz)) 0 0 (va_A (WL k ad n f (σ)) sz) := by
  refine fw_r (Or.inl ⟨_, rfl⟩) (wf := fun u : Mem => WL k ad n f u) (by decide) rfl (Nat.le_of_ble_eq_true rfl) ?_
  intro p e s m args below meth c A Q ls hC hP hD hl hret
  obtain ⟨⟨hx, hb, hml, hown, hts⟩, hG, hA⟩ := id hC
  have hK := hG.1
  have hS : va_S A s.heap s.heap [] := va_S.rf
  have hin_Jx4a65c : ∀ w ∈ u_ws RJx4a65c TJx4a65c 3, w ∈ wq_Jx4a65c_elementData_915e3 := fun w h => List.mem_cons_of_mem _ (iU_Jx4a65c w h)
  have hf_9 := hts _ (List.mem_cons_of_mem _ A_574)
  have hl : lv_has ls 2 [(0, .ref (ad 0)), (1, .int p1)] := hl
  have hown : s.vm.findClass RJx4a65c = some m.cls := hown
  unfold q_Jx4a65c_elementData_915e3 at hp
  refine lv_aload_n hx hb dJx4a65c_elementData_915e3_0 rfl (lv_at hl 0 rfl) ?_
  refine va_get (D := D) (ci := 3) (C := RJx4a65c) (T := TJx4a65c) (N := 3) hx hb hts hin_Jx4a65c hown hK hP 0 rfl rfl 1 (by decide) hf_9 (fun _ h9 => h9) rfl dJx4a65c_elementData_915e3_1 ?_
  refine lv_iload_n hx hb dJx4a65c_elementData_915e3_4 rfl (lv_at hl 1 rfl) ?_
  obtain ⟨h1, hp⟩ := hp
  obtain ⟨y2, ey2, hp⟩ := hp
  refine va_ldq hx hb hK hP 1 3 rfl rfl h1 ey2 dJx4a65c_elementData_915e3_5 ?_
  exact hret y2 (σ) _ _ _ _ _ _ dJx4a65c_elementData_915e3_6 hP hD hS (Nat.le_of_ble_eq_true rfl) (Nat.le_of_ble_eq_true rfl) hp
def q_Jx4a65c_get_915e3 (n : Nat) (f : Nat → Option Nat) (post : Nat → Mem → Prop) (p1 : Int32) (σ : Mem) : Prop := (q_J15_checkIndex_7cf53 (fun (r1 : Int32) (σ2 : Mem) => (q_Jx4a65c_elementData_915e3 n f (fun (r3 : Nat) (σ4 : Mem) => post r3 (σ4)) p1 (σ))) p1 ((σ) 0 2) (σ))
abbrev rm_Jx4a65c_get_915e3 : Room := { frames := 2, cells := 0, slots := 0, locals := 43 }
abbrev wq_Jx4a65c_get_915e3 : List Cond := Cond.code yJx4a65c_get_915e3 cJx4a65c_get_915e3 2 (some (.object "java/lang/Object")) :: wALL
set_option maxHeartbeats 4000000 in
set_option maxRecDepth 100000 in
theorem c_Jx4a65c_get_915e3 (l : Launch) (D : va_G) (k ad : Nat → Nat) (n : Nat) (f : Nat → Option Nat) {sz : Nat} {σ : Mem} {p1 : Int32} {post : Nat → Mem → Prop} (hp : q_Jx4a65c_get_915e3 n f post p1 σ) : Met l yJx4a65c_get_915e3 wq_Jx4a65c_get_915e3 rm_Jx4a65c_get_915e3 (va_Pc [.ref (ad 0), .int p1] (Pw D k (WL k ad n f (σ)) sz)) (va_Qr (fun z : Nat × Mem => post z.1 z.2) (fun z a t => a = z.1 ∧ Bw D (WL k ad n f (σ)) sz (WL k ad n f z.2) t) (va_A (WL k ad n f (σ)) sz)) 0 0 (va_A (WL k ad n f (σ)) sz) := by
  refine fw_r (Or.inl ⟨_, rfl⟩) (wf := fun u : Mem => WL k ad n f u) (by decide) rfl (Nat.le_of_ble_eq_true rfl) ?_
  intro p e s m args below meth c A Q ls hC hP hD hl hret
  obtain ⟨⟨hx, hb, hml, hown, hts⟩, hG, hA⟩ := id hC
  have hK := hG.1
  have hS : va_S A s.heap s.heap [] := va_S.rf
  have hin_Jx4a65c : ∀ w ∈ u_ws RJx4a65c TJx4a65c 3, w ∈ wq_Jx4a65c_get_915e3 := fun w h => List.mem_cons_of_mem _ (iU_Jx4a65c w h)
  have hf_48 := hts _ (List.mem_cons_of_mem _ A_603)
  have hl : lv_has ls 2 [(0, .ref (ad 0)), (1, .int p1)] := hl
  have hown : s.vm.findClass RJx4a65c = some m.cls := hown
  unfold q_Jx4a65c_get_915e3 at hp
  refine lv_iload_n hx hb dJx4a65c_get_915e3_0 rfl (lv_at hl 1 rfl) ?_
  refine lv_aload_n hx hb dJx4a65c_get_915e3_1 rfl (lv_at hl 0 rfl) ?_
  refine va_get (D := D) (ci := 3) (C := RJx4a65c) (T := TJx4a65c) (N := 3) hx hb hts hin_Jx4a65c hown hK hP 0 rfl rfl 2 (by decide) hf_48 (fun _ h9 => h9) rfl dJx4a65c_get_915e3_2 ?_
  refine fw_ciS (As := [.int p1, .int ((σ) 0 2)]) (rest := []) hC (c_J15_checkIndex_7cf53 l D k hp) (va_cwS 2 hts (gA_S A_614 A_615 A_616 A_610) rfl rfl rfl (by decide +kernel) ⟨Nat.le_of_ble_eq_true rfl, Nat.le_of_ble_eq_true rfl⟩) rfl hl.1 rfl (Nat.le_of_ble_eq_true rfl) dJx4a65c_get_915e3_5 ⟨Nat.le_of_ble_eq_true rfl, Nat.le_of_ble_eq_true rfl⟩ P_nil D_nil hS (Jn.pure (w0 := fun _ : Mem => []) hP hD) (fun r1 σ2 H locs hP hD hS hp => ?_)
  have hP : va_P D vwCl (WL k ad n f (σ)) H := hP
  have hD : va_D A (WL k ad n f (σ)) := hD
  refine lv_pop hx hb dJx4a65c_get_915e3_8 rfl ?_
  refine lv_aload_n hx hb dJx4a65c_get_915e3_9 rfl (lv_at hl 0 rfl) ?_
  refine lv_iload_n hx hb dJx4a65c_get_915e3_10 rfl (lv_at hl 1 rfl) ?_
  refine fw_crV (As := [.int p1]) (rest := []) hC (c_Jx4a65c_elementData_915e3 l D k ad n f hp) (cwV 1 hts (gA_V A_617 A_618 A_619 A_583 A_612) rfl rfl rfl (by decide +kernel) ⟨Nat.le_of_ble_eq_true rfl, Nat.le_of_ble_eq_true rfl⟩) (va_recv hK hP (ci := 3) (q0 := 0) rfl rfl) rfl hl.1 rfl (Nat.le_of_ble_eq_true rfl) dJx4a65c_get_915e3_11 ⟨Nat.le_of_ble_eq_true rfl, Nat.le_of_ble_eq_true rfl⟩ hP hD hS Jn.same (fun r3 σ4 H locs hP hD hS hp => ?_)
  have hP : va_P D vwCl (WL k ad n f (σ4)) H := hP
  have hD : va_D A (WL k ad n f (σ4)) := hD
  exact hret r3 (σ4) _ _ _ _ _ _ dJx4a65c_get_915e3_14 hP hD hS (Nat.le_of_ble_eq_true rfl) (Nat.le_of_ble_eq_true rfl) hp
