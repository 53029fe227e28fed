def q_J3_checkIndex_8e157_9  (post : Int32 → Mem → Prop)  (x0 : Int32) (x1 : Int32) (σ : Mem) : Prop := False
def q_J3_checkIndex_8e157  (post : Int32 → Mem → Prop) (p1 : Int32) (p2 : Int32) (σ : Mem) : Prop := ((p1 < 0 → (q_J3_checkIndex_8e157_9 post) p1 p2 (σ)) ∧ (¬ (p1 < 0) → ((p1 < p2 → post p1 (σ)) ∧ (¬ (p1 < p2) → (q_J3_checkIndex_8e157_9 post) p1 p2 (σ)))))
abbrev rm_J3_checkIndex_8e157 : Room := { frames := 0, cells := 0, slots := 0, locals := 0 }
abbrev wq_J3_checkIndex_8e157 : List Cond := Cond.code yJ3_checkIndex_8e157 cJ3_checkIndex_8e157 3 (some .int) :: wALL
set_option maxHeartbeats 4000000 in
set_option maxRecDepth 100000 in
theorem c_J3_checkIndex_8e157 (l : Launch) (D : va_G) (k : Nat → Nat) {sz : Nat} {σ : Mem} {p1 : Int32} {p2 : Int32} {post : Int32 → Mem → Prop} (hp : q_J3_checkIndex_8e157 post p1 p2 σ) : Met l yJ3_checkIndex_8e157 wq_J3_checkIndex_8e157 rm_J3_checkIndex_8e157 (va_Pc [.int p1, .int p2, .null] (Pw D k ([]) sz)) (va_Qi post (fun u => Bw D ([]) sz ([])) (va_A [] sz)) 0 0 (va_A [] sz) := by
  refine fw_i (wf := fun u : Mem => []) (by decide) rfl (Nat.le_of_ble_eq_true rfl) ?_
  intro p e s m args below meth c A Q ls hC hP hD hl hret
  obtain ⟨⟨hx, hb, hml, hown, hts⟩, hG, hA⟩ := id hC
  have hK := hG.1
  have hS : va_S A s.heap s.heap [] := va_S.rf
  have hl : lv_has ls 3 [(0, .int p1), (1, .int p2), (2, .null)] := hl
  have hown : s.vm.findClass RJ3 = some m.cls := hown
  unfold q_J3_checkIndex_8e157 at hp
  have B_9 : ∀ (x0 : Int32) (x1 : Int32) (σ : Mem) (H : Heap) (locs : List Loc) (ls : Array Slot), va_P D vwCl ([]) H → va_D A ([]) → va_S A s.heap H locs → lv_has ls 3 [(0, .int x0), (1, .int x1), (2, .null)] → (q_J3_checkIndex_8e157_9 post) x0 x1 σ → W p l e rm_J3_checkIndex_8e157 s m args below meth c H locs 0 0 Q (F0 m 9 ls []) := by
    intro x0 x1 σ H locs ls hP hD hS hl hp
    unfold q_J3_checkIndex_8e157_9 at hp
    refine lv_aload_nN hx hb dJ3_checkIndex_8e157_9 rfl (lv_at hl 2 rfl) ?_
    refine lv_iload_n hx hb dJ3_checkIndex_8e157_10 rfl (lv_at hl 0 rfl) ?_
    refine lv_iload_n hx hb dJ3_checkIndex_8e157_11 rfl (lv_at hl 1 rfl) ?_
    exact hp.elim
  refine lv_iload_n hx hb dJ3_checkIndex_8e157_0 rfl (lv_at hl 0 rfl) ?_
  refine lv_if_lt (tgt := 9) hx hb dJ3_checkIndex_8e157_1 (by decide) (fun c1 => ?_) (fun c1 => ?_)
  · have hp := hp.1 c1
    exact B_9 p1 p2 (σ) _ _ _  hP hD hS (lv_sub hl [0, 1, 2] rfl) hp
  · have hp := hp.2 c1
    refine lv_iload_n hx hb dJ3_checkIndex_8e157_4 rfl (lv_at hl 0 rfl) ?_
    refine lv_iload_n hx hb dJ3_checkIndex_8e157_5 rfl (lv_at hl 1 rfl) ?_
    refine lv_icmp_lt (tgt := 16) hx hb dJ3_checkIndex_8e157_6 (by decide) (fun c2 => ?_) (fun c2 => ?_)
    · have hp := hp.1 c2
      refine lv_iload_n hx hb dJ3_checkIndex_8e157_16 rfl (lv_at hl 0 rfl) ?_
      exact hret p1 (σ) _ _ _ _ _ _ dJ3_checkIndex_8e157_17 rfl hP hD hS (Nat.le_of_ble_eq_true rfl) (Nat.le_of_ble_eq_true rfl) hp
    · have hp := hp.2 c2
      exact B_9 p1 p2 (σ) _ _ _  hP hD hS (lv_sub hl [0, 1, 2] rfl) hp
def q_J15_checkIndex_7cf53  (post : Int32 → Mem → Prop) (p1 : Int32) (p2 : Int32) (σ : Mem) : Prop := (q_J3_checkIndex_8e157 (fun (r1 : Int32) (σ2 : Mem) => post r1 (σ2)) p1 p2 (σ))
abbrev rm_J15_checkIndex_7cf53 : Room := { frames := 1, cells := 0, slots := 0, locals := 22 }
abbrev wq_J15_checkIndex_7cf53 : List Cond := Cond.code yJ15_checkIndex_7cf53 cJ15_checkIndex_7cf53 2 (some .int) :: wALL
set_option maxHeartbeats 4000000 in
set_option maxRecDepth 100000 in
theorem c_J15_checkIndex_7cf53 (l : Launch) (D : va_G) (k : Nat → Nat) {sz : Nat} {σ : Mem} {p1 : Int32} {p2 : Int32} {post : Int32 → Mem → Prop} (hp : q_J15_checkIndex_7cf53 post p1 p2 σ) : Met l yJ15_checkIndex_7cf53 wq_J15_checkIndex_7cf53 rm_J15_checkIndex_7cf53 (va_Pc [.int p1, .int p2] (Pw D k ([]) sz)) (va_Qi post (fun u => Bw D ([]) sz ([])) (va_A [] sz)) 0 0 (va_A [] sz) := by
  refine fw_i (wf := fun u : Mem => []) (by decide) rfl (Nat.le_of_ble_eq_true rfl) ?_
  intro p e s m args below meth c A Q ls hC hP hD hl hret
  obtain ⟨⟨hx, hb, hml, hown, hts⟩, hG, hA⟩ := id hC
  have hK := hG.1
  have hS : va_S A s.heap s.heap [] := va_S.rf
  have hl : lv_has ls 2 [(0, .int p1), (1, .int p2)] := hl
  have hown : s.vm.findClass RJ15 = some m.cls := hown
  unfold q_J15_checkIndex_7cf53 at hp
  refine lv_iload_n hx hb dJ15_checkIndex_7cf53_0 rfl (lv_at hl 0 rfl) ?_
  refine lv_iload_n hx hb dJ15_checkIndex_7cf53_1 rfl (lv_at hl 1 rfl) ?_
  refine lv_null hx hb dJ15_checkIndex_7cf53_2 ?_
  refine fw_ciS (As := [.int p1, .int p2, .null]) (rest := []) hC (c_J3_checkIndex_8e157 l D k hp) (va_cwS 3 hts (gA_S A_611 A_394 A_363 A_391) rfl rfl rfl (by decide +kernel) ⟨Nat.le_of_ble_eq_true rfl, Nat.le_of_ble_eq_true rfl⟩) rfl hl.1 rfl (Nat.le_of_ble_eq_true rfl) dJ15_checkIndex_7cf53_3 ⟨Nat.le_of_ble_eq_true rfl, Nat.le_of_ble_eq_true rfl⟩ hP hD hS Jn.same (fun r1 σ2 H locs hP hD hS hp => ?_)
  exact hret r1 (σ2) _ _ _ _ _ _ dJ15_checkIndex_7cf53_6 rfl hP hD hS (Nat.le_of_ble_eq_true rfl) (Nat.le_of_ble_eq_true rfl) hp
def q_Jx4a65c_size_8abf5  (post : Int32 → Mem → Prop) (σ : Mem) : Prop := post ((σ) 0 2) (σ)
abbrev rm_Jx4a65c_size_8abf5 : Room := { frames := 0, cells := 0, slots := 0, locals := 0 }
abbrev wq_Jx4a65c_size_8abf5 : List Cond := Cond.code yJx4a65c_size_8abf5 cJx4a65c_size_8abf5 1 (some .int) :: wALL
set_option maxHeartbeats 4000000 in
set_option maxRecDepth 100000 in
theorem c_Jx4a65c_size_8abf5 (l : Launch) (D : va_G) (k ad : Nat → Nat) (d : Nat) {sz : Nat} {σ : Mem} {post : Int32 → Mem → Prop} (hp : q_Jx4a65c_size_8abf5 post σ) : Met l yJx4a65c_size_8abf5 wq_Jx4a65c_size_8abf5 rm_Jx4a65c_size_8abf5 (va_Pc [.ref (ad 0)] (Pw D k (WS k ad d (σ)) sz)) (va_Qi post (fun u => Bw D (WS k ad d (σ)) sz (WS k ad d u)) (va_A (WS k ad d (σ)) sz)) 0 0 (va_A (WS k ad d (σ)) sz) := by
  refine fw_i (wf := fun u : Mem => WS k ad d u) (by decide) rfl (Nat.le_of_ble_eq_true rfl) ?_
  intro p e s m args below meth c A Q ls hC hP hD hl hret
  obtain ⟨⟨hx, hb, hml, hown, hts⟩, hG, hA⟩ := id hC
  have hK := hG.1
  have hS : va_S A s.heap s.heap [] := va_S.rf
  have hin_Jx4a65c : ∀ w ∈ u_ws RJx4a65c TJx4a65c 3, w ∈ wq_Jx4a65c_size_8abf5 := fun w h => List.mem_cons_of_mem _ (iU_Jx4a65c w h)
  have hf_48 := hts _ (List.mem_cons_of_mem _ A_603)
  have hl : lv_has ls 1 [(0, .ref (ad 0))] := hl
  have hown : s.vm.findClass RJx4a65c = some m.cls := hown
  unfold q_Jx4a65c_size_8abf5 at hp
  refine lv_aload_n hx hb dJx4a65c_size_8abf5_0 rfl (lv_at hl 0 rfl) ?_
  refine va_get (D := D) (ci := 3) (C := RJx4a65c) (T := TJx4a65c) (N := 3) hx hb hts hin_Jx4a65c hown hK hP 0 rfl rfl 2 (by decide) hf_48 (fun _ h9 => h9) rfl dJx4a65c_size_8abf5_1 ?_
  exact hret ((σ) 0 2) (σ) _ _ _ _ _ _ dJx4a65c_size_8abf5_4 rfl hP hD hS (Nat.le_of_ble_eq_true rfl) (Nat.le_of_ble_eq_true rfl) hp
def q_Jx4a65c_elementData_915e3 (n : Nat) (f : Nat → Option Nat) (post : Nat → Mem → Prop) (p1 : Int32) (σ : Mem) : Prop := (vp_in p1 n ∧ (∃ y2 : Nat, f p1.toNatClampNeg = some y2 ∧ post y2 (σ)))
abbrev rm_Jx4a65c_elementData_915e3 : Room := { frames := 0, cells := 0, slots := 0, locals := 0 }
abbrev wq_Jx4a65c_elementData_915e3 : List Cond := Cond.code yJx4a65c_elementData_915e3 cJx4a65c_elementData_915e3 2 (some (.object "java/lang/Object")) :: wALL
set_option maxHeartbeats 4000000 in
set_option maxRecDepth 100000 in
theorem c_Jx4a65c_elementData_915e3 (l : Launch) (D : va_G) (k ad : Nat → Nat) (n : Nat) (f : Nat → Option Nat) {sz : Nat} {σ : Mem} {p1 : Int32} {post : Nat → Mem → Prop} (hp : q_Jx4a65c_elementData_915e3 n f post p1 σ) : Met l yJx4a65c_elementData_915e3 wq_Jx4a65c_elementData_915e3 rm_Jx4a65c_elementData_915e3 (va_Pc [.ref (ad 0), .int p1] (Pw D k (WL k ad n f (σ)) sz)) (va_Qr (fun z : Nat × Mem => post z.1 z.2) (fun z a t => a = z.1 ∧ Bw D (WL k ad n f (σ)) sz (WL k ad n f z.2) t) (va_A (WL k ad n f (σ)) sz)) 0 0 (va_A (WL k ad n f (σ)) sz) := by
  refine fw_r (Or.inl ⟨_, rfl⟩) (wf := fun u : Mem => WL k ad n f u) (by decide) rfl (Nat.le_of_ble_eq_true rfl) ?_
  intro p e s m args below meth c A Q ls hC hP hD hl hret
  obtain ⟨⟨hx, hb, hml, hown, hts⟩, hG, hA⟩ := id hC
  have hK := hG.1
  have hS : va_S A s.heap s.heap [] := va_S.rf
  have hin_Jx4a65c : ∀ w ∈ u_ws RJx4a65c TJx4a65c 3, w ∈ wq_Jx4a65c_elementData_915e3 := fun w h => List.mem_cons_of_mem _ (iU_Jx4a65c w h)
  have hf_9 := hts _ (List.mem_cons_of_mem _ A_574)
  have hl : lv_has ls 2 [(0, .ref (ad 0)), (1, .int p1)] := hl
  have hown : s.vm.findClass RJx4a65c = some m.cls := hown
  unfold q_Jx4a65c_elementData_915e3 at hp
  refine lv_aload_n hx hb dJx4a65c_elementData_915e3_0 rfl (lv_at hl 0 rfl) ?_
  refine va_get (D := D) (ci := 3) (C := RJx4a65c) (T := TJx4a65c) (N := 3) hx hb hts hin_Jx4a65c hown hK hP 0 rfl rfl 1 (by decide) hf_9 (fun _ h9 => h9) rfl dJx4a65c_elementData_915e3_1 ?_
  refine lv_iload_n hx hb dJx4a65c_elementData_915e3_4 rfl (lv_at hl 1 rfl) ?_
  obtain ⟨h1, hp⟩ := hp
  obtain ⟨y2, ey2, hp⟩ := hp
  refine va_ldq hx hb hK hP 1 3 rfl rfl h1 ey2 dJx4a65c_elementData_915e3_5 ?_
  exact hret y2 (σ) _ _ _ _ _ _ dJx4a65c_elementData_915e3_6 hP hD hS (Nat.le_of_ble_eq_true rfl) (Nat.le_of_ble_eq_true rfl) hp
def q_Jx4a65c_get_915e3 (n : Nat) (f : Nat → Option Nat) (post : Nat → Mem → Prop) (p1 : Int32) (σ : Mem) : Prop := (q_J15_checkIndex_7cf53 (fun (r1 : Int32) (σ2 : Mem) => (q_Jx4a65c_elementData_915e3 n f (fun (r3 : Nat) (σ4 : Mem) => post r3 (σ4)) p1 (σ))) p1 ((σ) 0 2) (σ))
abbrev rm_Jx4a65c_get_915e3 : Room := { frames := 2, cells := 0, slots := 0, locals := 43 }
abbrev wq_Jx4a65c_get_915e3 : List Cond := Cond.code yJx4a65c_get_915e3 cJx4a65c_get_915e3 2 (some (.object "java/lang/Object")) :: wALL
set_option maxHeartbeats 4000000 in
set_option maxRecDepth 100000 in
theorem c_Jx4a65c_get_915e3 (l : Launch) (D : va_G) (k ad : Nat → Nat) (n : Nat) (f : Nat → Option Nat) {sz : Nat} {σ : Mem} {p1 : Int32} {post : Nat → Mem → Prop} (hp : q_Jx4a65c_get_915e3 n f post p1 σ) : Met l yJx4a65c_get_915e3 wq_Jx4a65c_get_915e3 rm_Jx4a65c_get_915e3 (va_Pc [.ref (ad 0), .int p1] (Pw D k (WL k ad n f (σ)) sz)) (va_Qr (fun z : Nat × Mem => post z.1 z.2) (fun z a t => a = z.1 ∧ Bw D (WL k ad n f (σ)) sz (WL k ad n f z.2) t) (va_A (WL k ad n f (σ)) sz)) 0 0 (va_A (WL k ad n f (σ)) sz) := by
  refine fw_r (Or.inl ⟨_, rfl⟩) (wf := fun u : Mem => WL k ad n f u) (by decide) rfl (Nat.le_of_ble_eq_true rfl) ?_
  intro p e s m args below meth c A Q ls hC hP hD hl hret
  obtain ⟨⟨hx, hb, hml, hown, hts⟩, hG, hA⟩ := id hC
  have hK := hG.1
  have hS : va_S A s.heap s.heap [] := va_S.rf
  have hin_Jx4a65c : ∀ w ∈ u_ws RJx4a65c TJx4a65c 3, w ∈ wq_Jx4a65c_get_915e3 := fun w h => List.mem_cons_of_mem _ (iU_Jx4a65c w h)
  have hf_48 := hts _ (List.mem_cons_of_mem _ A_603)
  have hl : lv_has ls 2 [(0, .ref (ad 0)), (1, .int p1)] := hl
  have hown : s.vm.findClass RJx4a65c = some m.cls := hown
  unfold q_Jx4a65c_get_915e3 at hp
  refine lv_iload_n hx hb dJx4a65c_get_915e3_0 rfl (lv_at hl 1 rfl) ?_
  refine lv_aload_n hx hb dJx4a65c_get_915e3_1 rfl (lv_at hl 0 rfl) ?_
  refine va_get (D := D) (ci := 3) (C := RJx4a65c) (T := TJx4a65c) (N := 3) hx hb hts hin_Jx4a65c hown hK hP 0 rfl rfl 2 (by decide) hf_48 (fun _ h9 => h9) rfl dJx4a65c_get_915e3_2 ?_
  refine fw_ciS (As := [.int p1, .int ((σ) 0 2)]) (rest := []) hC (c_J15_checkIndex_7cf53 l D k hp) (va_cwS 2 hts (gA_S A_614 A_615 A_616 A_610) rfl rfl rfl (by decide +kernel) ⟨Nat.le_of_ble_eq_true rfl, Nat.le_of_ble_eq_true rfl⟩) rfl hl.1 rfl (Nat.le_of_ble_eq_true rfl) dJx4a65c_get_915e3_5 ⟨Nat.le_of_ble_eq_true rfl, Nat.le_of_ble_eq_true rfl⟩ P_nil D_nil hS (Jn.pure (w0 := fun _ : Mem => []) hP hD) (fun r1 σ2 H locs hP hD hS hp => ?_)
  have hP : va_P D vwCl (WL k ad n f (σ)) H := hP
  have hD : va_D A (WL k ad n f (σ)) := hD
  refine lv_pop hx hb dJx4a65c_get_915e3_8 rfl ?_
  refine lv_aload_n hx hb dJx4a65c_get_915e3_9 rfl (lv_at hl 0 rfl) ?_
  refine lv_iload_n hx hb dJx4a65c_get_915e3_10 rfl (lv_at hl 1 rfl) ?_
  refine fw_crV (As := [.int p1]) (rest := []) hC (c_Jx4a65c_elementData_915e3 l D k ad n f hp) (cwV 1 hts (gA_V A_617 A_618 A_619 A_583 A_612) rfl rfl rfl (by decide +kernel) ⟨Nat.le_of_ble_eq_true rfl, Nat.le_of_ble_eq_true rfl⟩) (va_recv hK hP (ci := 3) (q0 := 0) rfl rfl) rfl hl.1 rfl (Nat.le_of_ble_eq_true rfl) dJx4a65c_get_915e3_11 ⟨Nat.le_of_ble_eq_true rfl, Nat.le_of_ble_eq_true rfl⟩ hP hD hS Jn.same (fun r3 σ4 H locs hP hD hS hp => ?_)
  have hP : va_P D vwCl (WL k ad n f (σ4)) H := hP
  have hD : va_D A (WL k ad n f (σ4)) := hD
  exact hret r3 (σ4) _ _ _ _ _ _ dJx4a65c_get_915e3_14 hP hD hS (Nat.le_of_ble_eq_true rfl) (Nat.le_of_ble_eq_true rfl) hp
def q_Jx35411_hasNext_aae02_19  (post : Int32 → Mem → Prop)  (s0 : Int32) (σ : Mem) : Prop := (bz s0 ∧ post s0 (σ))
def q_Jx35411_hasNext_aae02  (post : Int32 → Mem → Prop) (σ : Mem) : Prop := ((((σ) 1 0) = ((σ) 0 2) → (q_Jx35411_hasNext_aae02_19 post) 0 (σ)) ∧ (¬ (((σ) 1 0) = ((σ) 0 2)) → (q_Jx35411_hasNext_aae02_19 post) 1 (σ)))
abbrev rm_Jx35411_hasNext_aae02 : Room := { frames := 0, cells := 0, slots := 0, locals := 0 }
abbrev wq_Jx35411_hasNext_aae02 : List Cond := Cond.code yJx35411_hasNext_aae02 cJx35411_hasNext_aae02 1 (some .boolean) :: wALL
set_option maxHeartbeats 4000000 in
set_option maxRecDepth 100000 in
theorem c_Jx35411_hasNext_aae02 (l : Launch) (D : va_G) (k ad : Nat → Nat) (d : Nat) {sz : Nat} {σ : Mem} {post : Int32 → Mem → Prop} (hp : q_Jx35411_hasNext_aae02 post σ) : Met l yJx35411_hasNext_aae02 wq_Jx35411_hasNext_aae02 rm_Jx35411_hasNext_aae02 (va_Pc [.ref (ad 1)] (Pw D k (WH k ad d (σ)) sz)) (va_Qi post (fun u => Bw D (WH k ad d (σ)) sz (WH k ad d u)) (va_A (WH k ad d (σ)) sz)) 0 0 (va_A (WH k ad d (σ)) sz) := by
  refine fw_i (wf := fun u : Mem => WH k ad d u) (by decide) rfl (Nat.le_of_ble_eq_true rfl) ?_
  intro p e s m args below meth c A Q ls hC hP hD hl hret
  obtain ⟨⟨hx, hb, hml, hown, hts⟩, hG, hA⟩ := id hC
  have hK := hG.1
  have hS : va_S A s.heap s.heap [] := va_S.rf
  have hin_Jx35411 : ∀ w ∈ u_ws RJx35411 TJx35411 4, w ∈ wq_Jx35411_hasNext_aae02 := fun w h => List.mem_cons_of_mem _ (iU_Jx35411 w h)
  have hf_25 := hts _ (List.mem_cons_of_mem _ A_844)
  have hf_1 := hts _ (List.mem_cons_of_mem _ A_832)
  have hin_Jx4a65c : ∀ w ∈ u_ws RJx4a65c TJx4a65c 3, w ∈ wq_Jx35411_hasNext_aae02 := fun w h => List.mem_cons_of_mem _ (iU_Jx4a65c w h)
  have hl : lv_has ls 1 [(0, .ref (ad 1))] := hl
  have hown : s.vm.findClass RJx35411 = some m.cls := hown
  unfold q_Jx35411_hasNext_aae02 at hp
  have B_19 : ∀ (s0 : Int32) (σ : Mem) (H : Heap) (locs : List Loc) (ls : Array Slot), va_P D vwCl (WH k ad d (σ)) H → va_D A (WH k ad d (σ)) → va_S A s.heap H locs → lv_has ls 1 [] → (q_Jx35411_hasNext_aae02_19 post) s0 σ → W p l e rm_Jx35411_hasNext_aae02 s m args below meth c H locs 0 0 Q (F0 m 19 ls [.int s0]) := by
    intro s0 σ H locs ls hP hD hS hl hp
    unfold q_Jx35411_hasNext_aae02_19 at hp
    exact hret s0 (σ) _ _ _ _ _ _ dJx35411_hasNext_aae02_19 hp.1.1 hP hD hS (Nat.le_of_ble_eq_true rfl) (Nat.le_of_ble_eq_true rfl) hp.2
  refine lv_aload_n hx hb dJx35411_hasNext_aae02_0 rfl (lv_at hl 0 rfl) ?_
  refine va_get (D := D) (ci := 2) (C := RJx35411) (T := TJx35411) (N := 4) hx hb hts hin_Jx35411 hown hK hP 1 rfl rfl 0 (by decide) hf_25 (fun _ h9 => h9) rfl dJx35411_hasNext_aae02_1 ?_
  refine lv_aload_n hx hb dJx35411_hasNext_aae02_4 rfl (lv_at hl 0 rfl) ?_
  refine va_get (D := D) (ci := 2) (C := RJx35411) (T := TJx35411) (N := 4) hx hb hts hin_Jx35411 hown hK hP 1 rfl rfl 3 (by decide) hf_1 (fun _ h9 => h9) rfl dJx35411_hasNext_aae02_5 ?_
  refine va_getN (D := D) (ci := 3) (C := RJx4a65c) (T := TJx4a65c) (N := 3) hx hb hts hin_Jx4a65c hown hK hP 0 rfl rfl 2 (by decide) (va_Nw.use rfl (GG.nf hG (q := (RJx35411, 28, "java/util/ArrayList", "size", "I", "java/util/ArrayList")) 9 rfl)) (fun _ h9 => h9) rfl dJx35411_hasNext_aae02_8 ?_
  refine lv_icmp_eq (tgt := 18) hx hb dJx35411_hasNext_aae02_11 (by decide) (fun c1 => ?_) (fun c1 => ?_)
  · have hp := hp.1 c1
    refine lv_iconst (v := 0) hx hb dJx35411_hasNext_aae02_18 (by decide) ?_
    exact B_19 0 (σ) _ _ _  hP hD hS (lv_sub hl [] rfl) hp
  · have hp := hp.2 c1
    refine lv_iconst (v := 1) hx hb dJx35411_hasNext_aae02_14 (by decide) ?_
    refine lv_goto (tgt := 19) hx hb dJx35411_hasNext_aae02_15 (by decide) ?_
    exact B_19 1 (σ) _ _ _  hP hD hS (lv_sub hl [] rfl) hp
def q_Jx35411_checkForComodification_da8c8 (n : Nat) (f : Nat → Option Nat) (post : Mem → Prop) (σ : Mem) : Prop := ((((σ) 0 0) = ((σ) 2 2) → post (σ)) ∧ (¬ (((σ) 0 0) = ((σ) 2 2)) → False))
abbrev rm_Jx35411_checkForComodification_da8c8 : Room := { frames := 0, cells := 0, slots := 0, locals := 0 }
abbrev wq_Jx35411_checkForComodification_da8c8 : List Cond := Cond.code yJx35411_checkForComodification_da8c8 cJx35411_checkForComodification_da8c8 1 none :: wALL
set_option maxHeartbeats 4000000 in
set_option maxRecDepth 100000 in
theorem c_Jx35411_checkForComodification_da8c8 (l : Launch) (D : va_G) (k ad : Nat → Nat) (n : Nat) (f : Nat → Option Nat) {sz : Nat} {σ : Mem} {post : Mem → Prop} (hp : q_Jx35411_checkForComodification_da8c8 n f post σ) : Met l yJx35411_checkForComodification_da8c8 wq_Jx35411_checkForComodification_da8c8 rm_Jx35411_checkForComodification_da8c8 (va_Pc [.ref (ad 2)] (Pw D k (WI k ad n f (σ)) sz)) (va_Qv post (fun u => Bw D (WI k ad n f (σ)) sz (WI k ad n f u)) (va_A (WI k ad n f (σ)) sz)) 0 0 (va_A (WI k ad n f (σ)) sz) := by
  refine fw_v (wf := fun u : Mem => WI k ad n f u) (by decide) rfl (Nat.le_of_ble_eq_true rfl) ?_
  intro p e s m args below meth c A Q ls hC hP hD hl hmn hret
  obtain ⟨⟨hx, hb, hml, hown, hts⟩, hG, hA⟩ := id hC
  have hK := hG.1
  have hS : va_S A s.heap s.heap [] := va_S.rf
  have hin_Jx35411 : ∀ w ∈ u_ws RJx35411 TJx35411 4, w ∈ wq_Jx35411_checkForComodification_da8c8 := fun w h => List.mem_cons_of_mem _ (iU_Jx35411 w h)
  have hf_1 := hts _ (List.mem_cons_of_mem _ A_832)
  have hin_Jx4a65c : ∀ w ∈ u_ws RJx4a65c TJx4a65c 3, w ∈ wq_Jx35411_checkForComodification_da8c8 := fun w h => List.mem_cons_of_mem _ (iU_Jx4a65c w h)
  have hf_17 := hts _ (List.mem_cons_of_mem _ A_835)
  have hf_22 := hts _ (List.mem_cons_of_mem _ A_836)
  have hl : lv_has ls 1 [(0, .ref (ad 2))] := hl
  have hown : s.vm.findClass RJx35411 = some m.cls := hown
  unfold q_Jx35411_checkForComodification_da8c8 at hp
  refine lv_aload_n hx hb dJx35411_checkForComodification_da8c8_0 rfl (lv_at hl 0 rfl) ?_
  refine va_get (D := D) (ci := 2) (C := RJx35411) (T := TJx35411) (N := 4) hx hb hts hin_Jx35411 hown hK hP 2 rfl rfl 3 (by decide) hf_1 (fun _ h9 => h9) rfl dJx35411_checkForComodification_da8c8_1 ?_
  refine va_get (D := D) (ci := 3) (C := RJx4a65c) (T := TJx4a65c) (N := 3) hx hb hts hin_Jx4a65c hown hK hP 0 rfl rfl 0 (by decide) hf_17 (fun x9 h9 => u_same (hts _ (List.mem_cons_of_mem _ A_657)) x9 h9) rfl dJx35411_checkForComodification_da8c8_4 ?_
  refine lv_aload_n hx hb dJx35411_checkForComodification_da8c8_7 rfl (lv_at hl 0 rfl) ?_
  refine va_get (D := D) (ci := 2) (C := RJx35411) (T := TJx35411) (N := 4) hx hb hts hin_Jx35411 hown hK hP 2 rfl rfl 2 (by decide) hf_22 (fun _ h9 => h9) rfl dJx35411_checkForComodification_da8c8_8 ?_
  refine lv_icmp_eq (tgt := 22) hx hb dJx35411_checkForComodification_da8c8_11 (by decide) (fun c1 => ?_) (fun c1 => ?_)
  · have hp := hp.1 c1
    exact hret (σ) _ _ _ _ _ _ dJx35411_checkForComodification_da8c8_22 hP hD hS (Nat.le_of_ble_eq_true rfl) (Nat.le_of_ble_eq_true rfl) hp
  · have hp := hp.2 c1
    exact hp.elim
def q_Jx35411_next_0502b (n : Nat) (f : Nat → Option Nat) (post : Nat → Mem → Prop) (σ : Mem) : Prop := (q_Jx35411_checkForComodification_da8c8 n f (fun (σ2 : Mem) => (∀ v3 : Int32, v3 = ((σ2) 2 0) → ((v3 < ((σ2) 0 2) → ((v3 < (nI n) → (∀ σ6 : Mem, σ6 = mst (σ2) 2 0 (v3 + 1) → (∀ σ7 : Mem, σ7 = mst (σ6) 2 1 v3 → (vp_in v3 n ∧ (∃ y9 : Nat, f v3.toNatClampNeg = some y9 ∧ post y9 (σ7)))))) ∧ (¬ (v3 < (nI n)) → False))) ∧ (¬ (v3 < ((σ2) 0 2)) → False)))) (σ))
abbrev rm_Jx35411_next_0502b : Room := { frames := 1, cells := 0, slots := 0, locals := 20 }
abbrev wq_Jx35411_next_0502b : List Cond := Cond.code yJx35411_next_0502b cJx35411_next_0502b 3 (some (.object "java/lang/Object")) :: wALL
set_option maxHeartbeats 4000000 in
set_option maxRecDepth 100000 in
theorem c_Jx35411_next_0502b (l : Launch) (D : va_G) (k ad : Nat → Nat) (n : Nat) (f : Nat → Option Nat) {sz : Nat} {σ : Mem} {post : Nat → Mem → Prop} (hp : q_Jx35411_next_0502b n f post σ) : Met l yJx35411_next_0502b wq_Jx35411_next_0502b rm_Jx35411_next_0502b (va_Pc [.ref (ad 2)] (Pw D k (WI k ad n f (σ)) sz)) (va_Qr (fun z : Nat × Mem => post z.1 z.2) (fun z a t => a = z.1 ∧ Bw D (WI k ad n f (σ)) sz (WI k ad n f z.2) t) (va_A (WI k ad n f (σ)) sz)) 0 0 (va_A (WI k ad n f (σ)) sz) := by
  refine fw_r (Or.inl ⟨_, rfl⟩) (wf := fun u : Mem => WI k ad n f u) (by decide) rfl (Nat.le_of_ble_eq_true rfl) ?_
  intro p e s m args below meth c A Q ls hC hP hD hl hret
  obtain ⟨⟨hx, hb, hml, hown, hts⟩, hG, hA⟩ := id hC
  have hK := hG.1
  have hS : va_S A s.heap s.heap [] := va_S.rf
  have hin_Jx35411 : ∀ w ∈ u_ws RJx35411 TJx35411 4, w ∈ wq_Jx35411_next_0502b := fun w h => List.mem_cons_of_mem _ (iU_Jx35411 w h)
  have hf_25 := hts _ (List.mem_cons_of_mem _ A_844)
  have hf_1 := hts _ (List.mem_cons_of_mem _ A_832)
  have hin_Jx4a65c : ∀ w ∈ u_ws RJx4a65c TJx4a65c 3, w ∈ wq_Jx35411_next_0502b := fun w h => List.mem_cons_of_mem _ (iU_Jx4a65c w h)
  have hf_37 := hts _ (List.mem_cons_of_mem _ A_847)
  have hf_13 := hts _ (List.mem_cons_of_mem _ A_834)
  have hl : lv_has ls 3 [(0, .ref (ad 2))] := hl
  have hown : s.vm.findClass RJx35411 = some m.cls := hown
  unfold q_Jx35411_next_0502b at hp
  refine lv_aload_n hx hb dJx35411_next_0502b_0 rfl (lv_at hl 0 rfl) ?_
  refine fw_cvV (As := []) (rest := []) hC (c_Jx35411_checkForComodification_da8c8 l D k ad n f hp) (cwV 0 hts (gA_V A_848 A_849 A_850 A_840 A_845) rfl rfl rfl (by decide +kernel) ⟨Nat.le_of_ble_eq_true rfl, Nat.le_of_ble_eq_true rfl⟩) (va_recv hK hP (ci := 2) (q0 := 2) rfl rfl) rfl hl.1 rfl (Nat.le_of_ble_eq_true rfl) dJx35411_next_0502b_1 ⟨Nat.le_of_ble_eq_true rfl, Nat.le_of_ble_eq_true rfl⟩ hP hD hS Jn.same (fun σ2 H locs hP hD hS hp => ?_)
  have hP : va_P D vwCl (WI k ad n f (σ2)) H := hP
  have hD : va_D A (WI k ad n f (σ2)) := hD
  refine lv_aload_n hx hb dJx35411_next_0502b_4 rfl (lv_at hl 0 rfl) ?_
  refine va_get (D := D) (ci := 2) (C := RJx35411) (T := TJx35411) (N := 4) hx hb hts hin_Jx35411 hown hK hP 2 rfl rfl 0 (by decide) hf_25 (fun _ h9 => h9) rfl dJx35411_next_0502b_5 ?_
  refine lv_topi (fun v3 ev3 => ?_)
  have hp := hp v3 ev3
  refine lv_istore_n (lv' := [(1, .int v3), (0, .ref (ad 2))]) hx hb dJx35411_next_0502b_8 rfl hl (by decide) rfl (fun ls hl => ?_)
  refine lv_iload_n hx hb dJx35411_next_0502b_9 rfl (lv_at hl 0 rfl) ?_
  refine lv_aload_n hx hb dJx35411_next_0502b_10 rfl (lv_at hl 1 rfl) ?_
  refine va_get (D := D) (ci := 2) (C := RJx35411) (T := TJx35411) (N := 4) hx hb hts hin_Jx35411 hown hK hP 2 rfl rfl 3 (by decide) hf_1 (fun _ h9 => h9) rfl dJx35411_next_0502b_11 ?_
  refine va_getN (D := D) (ci := 3) (C := RJx4a65c) (T := TJx4a65c) (N := 3) hx hb hts hin_Jx4a65c hown hK hP 0 rfl rfl 2 (by decide) (va_Nw.use rfl (GG.nf hG (q := (RJx35411, 28, "java/util/ArrayList", "size", "I", "java/util/ArrayList")) 9 rfl)) (fun _ h9 => h9) rfl dJx35411_next_0502b_14 ?_
  refine lv_icmp_lt (tgt := 28) hx hb dJx35411_next_0502b_17 (by decide) (fun c4 => ?_) (fun c4 => ?_)
  · have hp := hp.1 c4
    refine lv_aload_n hx hb dJx35411_next_0502b_28 rfl (lv_at hl 1 rfl) ?_
    refine va_get (D := D) (ci := 2) (C := RJx35411) (T := TJx35411) (N := 4) hx hb hts hin_Jx35411 hown hK hP 2 rfl rfl 3 (by decide) hf_1 (fun _ h9 => h9) rfl dJx35411_next_0502b_29 ?_
    refine va_get (D := D) (ci := 3) (C := RJx4a65c) (T := TJx4a65c) (N := 3) hx hb hts hin_Jx4a65c hown hK hP 0 rfl rfl 1 (by decide) hf_37 (fun _ h9 => h9) rfl dJx35411_next_0502b_32 ?_
    refine lv_astore_n (lv' := [(2, .ref (ad 1)), (1, .int v3), (0, .ref (ad 2))]) hx hb dJx35411_next_0502b_35 rfl hl (by decide) rfl (fun ls hl => ?_)
    refine lv_iload_n hx hb dJx35411_next_0502b_36 rfl (lv_at hl 1 rfl) ?_
    refine lv_aload_n hx hb dJx35411_next_0502b_37 rfl (lv_at hl 0 rfl) ?_
    refine va_alen hx hb hK hP 1 3 rfl rfl (v := nI n) rfl dJx35411_next_0502b_38 ?_
    refine lv_icmp_lt (tgt := 50) hx hb dJx35411_next_0502b_39 (by decide) (fun c5 => ?_) (fun c5 => ?_)
    · have hp := hp.1 c5
      refine lv_aload_n hx hb dJx35411_next_0502b_50 rfl (lv_at hl 2 rfl) ?_
      refine lv_iload_n hx hb dJx35411_next_0502b_51 rfl (lv_at hl 1 rfl) ?_
      refine lv_iconst (v := 1) hx hb dJx35411_next_0502b_52 (by decide) ?_
      refine lv_iadd hx hb dJx35411_next_0502b_53 ?_
      refine va_put (D := D) (ci := 2) (v := .int (v3 + 1)) (ty := .int) (C := RJx35411) (T := TJx35411) (N := 4) hx hb hts hin_Jx35411 tyJx35411 tyJx35411_ok nmJx35411 hown hK hP hD hS 2 rfl rfl 0 (by decide) hf_25 (fun _ h9 => h9) rfl (by decide +kernel) rfl rfl (Nat.le_of_ble_eq_true rfl) dJx35411_next_0502b_54 (fun H locs hP hD hS => ?_)
      obtain ⟨σ6, eσ6⟩ : ∃ z : Mem, z = mst (σ2) 2 0 (v3 + 1) := ⟨_, rfl⟩
      have hp := hp σ6 eσ6
      have hP : va_P D vwCl (WI k ad n f (σ6)) H := by rw [eσ6]; exact hP
      have hD : va_D A (WI k ad n f (σ6)) := by rw [eσ6]; exact hD
      refine lv_aload_n hx hb dJx35411_next_0502b_57 rfl (lv_at hl 0 rfl) ?_
      refine lv_aload_n hx hb dJx35411_next_0502b_58 rfl (lv_at hl 2 rfl) ?_
      refine lv_iload_n hx hb dJx35411_next_0502b_59 rfl (lv_at hl 1 rfl) ?_
      refine lv_dup_x1 hx hb dJx35411_next_0502b_60 rfl rfl ?_
      refine va_put (D := D) (ci := 2) (v := .int v3) (ty := .int) (C := RJx35411) (T := TJx35411) (N := 4) hx hb hts hin_Jx35411 tyJx35411 tyJx35411_ok nmJx35411 hown hK hP hD hS 2 rfl rfl 1 (by decide) hf_13 (fun _ h9 => h9) rfl (by decide +kernel) rfl rfl (Nat.le_of_ble_eq_true rfl) dJx35411_next_0502b_61 (fun H locs hP hD hS => ?_)
      obtain ⟨σ7, eσ7⟩ : ∃ z : Mem, z = mst (σ6) 2 1 v3 := ⟨_, rfl⟩
      have hp := hp σ7 eσ7
      have hP : va_P D vwCl (WI k ad n f (σ7)) H := by rw [eσ7]; exact hP
      have hD : va_D A (WI k ad n f (σ7)) := by rw [eσ7]; exact hD
      obtain ⟨h8, hp⟩ := hp
      obtain ⟨y9, ey9, hp⟩ := hp
      refine va_ldq hx hb hK hP 1 3 rfl rfl h8 ey9 dJx35411_next_0502b_64 ?_
      exact hret y9 (σ7) _ _ _ _ _ _ dJx35411_next_0502b_65 hP hD hS (Nat.le_of_ble_eq_true rfl) (Nat.le_of_ble_eq_true rfl) hp
    · have hp := hp.2 c5
      exact hp.elim
  · have hp := hp.2 c4
    exact hp.elim
abbrev rm_Jx35411_init_45d68 : Room := { frames := 1, cells := 0, slots := 0, locals := 12 }
abbrev wq_Jx35411_init_45d68 : List Cond := Cond.code yJx35411_init_45d68 cJx35411_init_45d68 2 none :: wALL
def wv_Jx35411_init_45d68 (k : Nat → Nat) (h0 : Nat) (a1 : Nat) (d0 : Nat) (z0 : Int32) (z2 : Int32) (u : Nat → Nat) : va_W := [(a1, .inr (3, [.int z0, .ref d0, .int z2])), (h0, .inr (2, [.int 0, .int (-1), .int z0, .ref a1]))]
set_option maxHeartbeats 4000000 in
set_option maxRecDepth 100000 in
theorem c_Jx35411_init_45d68 (l : Launch) (D : va_G) (k : Nat → Nat) (h0 : Nat) (a1 : Nat) (d0 : Nat) (z0 : Int32) (z2 : Int32) {sz : Nat} : Met l yJx35411_init_45d68 wq_Jx35411_init_45d68 rm_Jx35411_init_45d68 (va_Pc [.ref h0, .ref a1] (Pw D k [(a1, .inr (3, [.int z0, .ref d0, .int z2])), (h0, .inr (2, [.int 0, .int 0, .int 0, .null]))] sz)) (va_Qv (fun _ : Nat → Nat => True) (fun u => Bw D [(a1, .inr (3, [.int z0, .ref d0, .int z2])), (h0, .inr (2, [.int 0, .int 0, .int 0, .null]))] sz (wv_Jx35411_init_45d68 k h0 a1 d0 z0 z2 u)) (va_A [(a1, .inr (3, [.int z0, .ref d0, .int z2])), (h0, .inr (2, [.int 0, .int 0, .int 0, .null]))] sz)) 0 0 (va_A [(a1, .inr (3, [.int z0, .ref d0, .int z2])), (h0, .inr (2, [.int 0, .int 0, .int 0, .null]))] sz) := by
  refine fw_v (wf := fun u : Nat → Nat => wv_Jx35411_init_45d68 k h0 a1 d0 z0 z2 u) (by decide) rfl (Nat.le_of_ble_eq_true rfl) ?_
  intro p e s m args below meth c A Q ls hC hP hD hl hmn hret
  obtain ⟨⟨hx, hb, hml, hown, hts⟩, hG, hA⟩ := id hC
  have hK := hG.1
  have hS : va_S A s.heap s.heap [] := va_S.rf
  have hin_Jx35411 : ∀ w ∈ u_ws RJx35411 TJx35411 4, w ∈ wq_Jx35411_init_45d68 := fun w h => List.mem_cons_of_mem _ (iU_Jx35411 w h)
  have hf_1 := hts _ (List.mem_cons_of_mem _ A_832)
  have hf_13 := hts _ (List.mem_cons_of_mem _ A_834)
  have hin_Jx4a65c : ∀ w ∈ u_ws RJx4a65c TJx4a65c 3, w ∈ wq_Jx35411_init_45d68 := fun w h => List.mem_cons_of_mem _ (iU_Jx4a65c w h)
  have hf_17 := hts _ (List.mem_cons_of_mem _ A_835)
  have hf_22 := hts _ (List.mem_cons_of_mem _ A_836)
  have hl : lv_has ls 2 [(0, .ref h0), (1, .ref a1)] := hl
  have hown : s.vm.findClass RJx35411 = some m.cls := hown
  refine lv_aload_n hx hb dJx35411_init_45d68_0 rfl (lv_at hl 0 rfl) ?_
  refine lv_aload_n hx hb dJx35411_init_45d68_1 rfl (lv_at hl 1 rfl) ?_
  refine va_putF (D := D) (ci := 2) (v := .ref a1) (ty := .object "java/util/ArrayList") (C := RJx35411) (T := TJx35411) (N := 4) hx hb hts hin_Jx35411 tyJx35411 tyJx35411_ok nmJx35411 hown hK hP hD hS 1 rfl rfl 3 (by decide) hf_1 (fun _ h9 => h9) rfl hmn rfl (by decide +kernel) rfl rfl (Nat.le_of_ble_eq_true rfl) dJx35411_init_45d68_2 (fun H locs hP hD hS => ?_)
  have hP : va_P D vwCl [(a1, .inr (3, [.int z0, .ref d0, .int z2])), (h0, .inr (2, [.int 0, .int 0, .int 0, .ref a1]))] H := hP
  have hD : va_D A [(a1, .inr (3, [.int z0, .ref d0, .int z2])), (h0, .inr (2, [.int 0, .int 0, .int 0, .ref a1]))] := hD
  refine lv_aload_n hx hb dJx35411_init_45d68_5 rfl (lv_at hl 0 rfl) ?_
  refine W.objInit hx hb hown (hts _ (List.mem_cons_of_mem _ A_833)) (hts _ (List.mem_cons_of_mem _ A_3)) (hts _ (List.mem_cons_of_mem _ A_4)) rfl (by rw [hml]; exact hl.1) rfl dJx35411_init_45d68_6 (Nat.le_of_ble_eq_true rfl) (Nat.le_of_ble_eq_true rfl) ?_
  refine W.eq (g2 := F0 m 9 ls []) rfl ?_
  refine lv_aload_n hx hb dJx35411_init_45d68_9 rfl (lv_at hl 0 rfl) ?_
  refine lv_iconst (v := (-1)) hx hb dJx35411_init_45d68_10 (by decide) ?_
  refine va_put (D := D) (ci := 2) (v := .int (-1)) (ty := .int) (C := RJx35411) (T := TJx35411) (N := 4) hx hb hts hin_Jx35411 tyJx35411 tyJx35411_ok nmJx35411 hown hK hP hD hS 1 rfl rfl 1 (by decide) hf_13 (fun _ h9 => h9) rfl (by decide +kernel) rfl rfl (Nat.le_of_ble_eq_true rfl) dJx35411_init_45d68_11 (fun H locs hP hD hS => ?_)
  have hP : va_P D vwCl [(a1, .inr (3, [.int z0, .ref d0, .int z2])), (h0, .inr (2, [.int 0, .int (-1), .int 0, .ref a1]))] H := hP
  have hD : va_D A [(a1, .inr (3, [.int z0, .ref d0, .int z2])), (h0, .inr (2, [.int 0, .int (-1), .int 0, .ref a1]))] := hD
  refine lv_aload_n hx hb dJx35411_init_45d68_14 rfl (lv_at hl 0 rfl) ?_
  refine lv_aload_n hx hb dJx35411_init_45d68_15 rfl (lv_at hl 0 rfl) ?_
  refine va_get (D := D) (ci := 2) (C := RJx35411) (T := TJx35411) (N := 4) hx hb hts hin_Jx35411 hown hK hP 1 rfl rfl 3 (by decide) hf_1 (fun _ h9 => h9) rfl dJx35411_init_45d68_16 ?_
  refine va_get (D := D) (ci := 3) (C := RJx4a65c) (T := TJx4a65c) (N := 3) hx hb hts hin_Jx4a65c hown hK hP 0 rfl rfl 0 (by decide) hf_17 (fun x9 h9 => u_same (hts _ (List.mem_cons_of_mem _ A_657)) x9 h9) rfl dJx35411_init_45d68_19 ?_
  refine va_put (D := D) (ci := 2) (v := .int z0) (ty := .int) (C := RJx35411) (T := TJx35411) (N := 4) hx hb hts hin_Jx35411 tyJx35411 tyJx35411_ok nmJx35411 hown hK hP hD hS 1 rfl rfl 2 (by decide) hf_22 (fun _ h9 => h9) rfl (by decide +kernel) rfl rfl (Nat.le_of_ble_eq_true rfl) dJx35411_init_45d68_22 (fun H locs hP hD hS => ?_)
  have hP : va_P D vwCl [(a1, .inr (3, [.int z0, .ref d0, .int z2])), (h0, .inr (2, [.int 0, .int (-1), .int z0, .ref a1]))] H := hP
  have hD : va_D A [(a1, .inr (3, [.int z0, .ref d0, .int z2])), (h0, .inr (2, [.int 0, .int (-1), .int z0, .ref a1]))] := hD
  exact hret (fun i => ([] : List Nat).getD i 0) _ _ _ _ _ _ dJx35411_init_45d68_25 hP hD hS (Nat.le_of_ble_eq_true rfl) (Nat.le_of_ble_eq_true rfl) trivial
abbrev rm_Jx4a65c_iterator_32c93 : Room := { frames := 2, cells := 1, slots := 4, locals := 33 }
abbrev wq_Jx4a65c_iterator_32c93 : List Cond := Cond.code yJx4a65c_iterator_32c93 cJx4a65c_iterator_32c93 1 (some (.object "java/util/Iterator")) :: wALL
def wv_Jx4a65c_iterator_32c93 (k : Nat → Nat) (h0 : Nat) (d0 : Nat) (z0 : Int32) (z2 : Int32) (u : Nat → Nat) : va_W := [(h0, .inr (3, [.int z0, .ref d0, .int z2])), ((u 0), .inr (2, [.int 0, .int (-1), .int z0, .ref h0]))]
set_option maxHeartbeats 4000000 in
set_option maxRecDepth 100000 in
theorem c_Jx4a65c_iterator_32c93 (l : Launch) (D : va_G) (k : Nat → Nat) (h0 : Nat) (d0 : Nat) (z0 : Int32) (z2 : Int32) {sz : Nat} : Met l yJx4a65c_iterator_32c93 wq_Jx4a65c_iterator_32c93 rm_Jx4a65c_iterator_32c93 (va_Pc [.ref h0] (Pw D k [(h0, .inr (3, [.int z0, .ref d0, .int z2]))] sz)) (va_Qr (fun z : Nat × (Nat → Nat) => z.1 = z.2 0) (fun z a t => a = z.1 ∧ Bw D [(h0, .inr (3, [.int z0, .ref d0, .int z2]))] sz (wv_Jx4a65c_iterator_32c93 k h0 d0 z0 z2 z.2) t) (va_A [(h0, .inr (3, [.int z0, .ref d0, .int z2]))] sz)) 1 4 (va_A [(h0, .inr (3, [.int z0, .ref d0, .int z2]))] sz) := by
  refine fw_r (Or.inl ⟨_, rfl⟩) (post := fun r (u : Nat → Nat) => r = u 0) (wf := fun u : Nat → Nat => wv_Jx4a65c_iterator_32c93 k h0 d0 z0 z2 u) (by decide) rfl (Nat.le_of_ble_eq_true rfl) ?_
  intro p e s m args below meth c A Q ls hC hP hD hl hret
  obtain ⟨⟨hx, hb, hml, hown, hts⟩, hG, hA⟩ := id hC
  have hK := hG.1
  have hS : va_S A s.heap s.heap [] := va_S.rf
  have hin_Jx35411 : ∀ w ∈ u_ws RJx35411 TJx35411 4, w ∈ wq_Jx4a65c_iterator_32c93 := fun w h => List.mem_cons_of_mem _ (iU_Jx35411 w h)
  have hl : lv_has ls 1 [(0, .ref h0)] := hl
  have hown : s.vm.findClass RJx4a65c = some m.cls := hown
  refine va_new (ci := 2) (fs := [.int 0, .int 0, .int 0, .null]) (C := RJx35411) (T := TJx35411) (N := 4) hx hb hts hin_Jx35411 tyJx35411 tyJx35411_ok hown (hts _ (List.mem_cons_of_mem _ A_838)) (hts _ (List.mem_cons_of_mem _ A_839)) (hts _ (List.mem_cons_of_mem _ A_840)) hK hP hD hS hA rfl (fun j hj => by rcases (show j = 0 ∨ j = 1 ∨ j = 2 ∨ j = 3 by omega) with rfl | rfl | rfl | rfl <;> rfl) (Nat.le_of_ble_eq_true rfl) (Nat.le_of_ble_eq_true rfl) dJx4a65c_iterator_32c93_0 (fun q1 H hP hD hS => ?_)
  have hP : va_P D vwCl [(h0, .inr (3, [.int z0, .ref d0, .int z2])), (q1, .inr (2, [.int 0, .int 0, .int 0, .null]))] H := hP
  have hD : va_D A [(h0, .inr (3, [.int z0, .ref d0, .int z2])), (q1, .inr (2, [.int 0, .int 0, .int 0, .null]))] := hD
  refine lv_dup hx hb dJx4a65c_iterator_32c93_3 rfl ?_
  refine lv_aload_n hx hb dJx4a65c_iterator_32c93_4 rfl (lv_at hl 0 rfl) ?_
  refine fw_cvI (As := [.ref h0]) (rest := [.ref q1]) hC (c_Jx35411_init_45d68 l D k q1 h0 d0 z0 z2) (cwI 1 hts (gA_0 A_831) rfl rfl rfl (hts _ (List.mem_cons_of_mem _ A_840)) (hts _ (List.mem_cons_of_mem _ A_841)) (hts _ (List.mem_cons_of_mem _ A_842)) rfl (by decide +kernel) ⟨Nat.le_of_ble_eq_true rfl, Nat.le_of_ble_eq_true rfl⟩) rfl hl.1 rfl (Nat.le_of_ble_eq_true rfl) dJx4a65c_iterator_32c93_5 ⟨Nat.le_of_ble_eq_true rfl, Nat.le_of_ble_eq_true rfl⟩ hP hD hS Jn.same (fun u9 H locs hP hD hS _ => ?_)
  have hP : va_P D vwCl [(h0, .inr (3, [.int z0, .ref d0, .int z2])), (q1, .inr (2, [.int 0, .int (-1), .int z0, .ref h0]))] H := hP
  have hD : va_D A [(h0, .inr (3, [.int z0, .ref d0, .int z2])), (q1, .inr (2, [.int 0, .int (-1), .int z0, .ref h0]))] := hD
  exact hret q1 (fun i => ([q1] : List Nat).getD i 0) _ _ _ _ _ _ dJx4a65c_iterator_32c93_8 hP hD hS (Nat.le_of_ble_eq_true rfl) (Nat.le_of_ble_eq_true rfl) rfl
abbrev rm_X7_init : Room := { frames := 1, cells := 0, slots := 0, locals := 12 }
abbrev wq_X7_init : List Cond := Cond.code yX7_init cX7_init 1 none :: wALL
def wv_X7_init (k : Nat → Nat) (h0 : Nat)  (u : Nat → Nat) : va_W := [(h0, .inr (11, [.int 0, .int 0, .int 0, .int 0, .int 0, .int 0, .int 0]))]
set_option maxHeartbeats 4000000 in
set_option maxRecDepth 100000 in
theorem c_X7_init (l : Launch) (D : va_G) (k : Nat → Nat) (h0 : Nat)  {sz : Nat} : Met l yX7_init wq_X7_init rm_X7_init (va_Pc [.ref h0] (Pw D k [(h0, .inr (11, [.int 0, .int 0, .int 0, .int 0, .int 0, .int 0, .int 0]))] sz)) (va_Qv (fun _ : Nat → Nat => True) (fun u => Bw D [(h0, .inr (11, [.int 0, .int 0, .int 0, .int 0, .int 0, .int 0, .int 0]))] sz (wv_X7_init k h0  u)) (va_A [(h0, .inr (11, [.int 0, .int 0, .int 0, .int 0, .int 0, .int 0, .int 0]))] sz)) 0 0 (va_A [(h0, .inr (11, [.int 0, .int 0, .int 0, .int 0, .int 0, .int 0, .int 0]))] sz) := by
  refine fw_v (wf := fun u : Nat → Nat => wv_X7_init k h0  u) (by decide) rfl (Nat.le_of_ble_eq_true rfl) ?_
  intro p e s m args below meth c A Q ls hC hP hD hl hmn hret
  obtain ⟨⟨hx, hb, hml, hown, hts⟩, hG, hA⟩ := id hC
  have hK := hG.1
  have hS : va_S A s.heap s.heap [] := va_S.rf
  have hl : lv_has ls 1 [(0, .ref h0)] := hl
  have hown : s.vm.findClass RX7 = some m.cls := hown
  refine lv_aload_n hx hb dX7_init_0 rfl (lv_at hl 0 rfl) ?_
  refine W.objInit hx hb hown (hts _ (List.mem_cons_of_mem _ A_564)) (hts _ (List.mem_cons_of_mem _ A_3)) (hts _ (List.mem_cons_of_mem _ A_4)) rfl (by rw [hml]; exact hl.1) rfl dX7_init_1 (Nat.le_of_ble_eq_true rfl) (Nat.le_of_ble_eq_true rfl) ?_
  refine W.eq (g2 := F0 m 4 ls []) rfl ?_
  exact hret (fun i => ([] : List Nat).getD i 0) _ _ _ _ _ _ dX7_init_4 hP hD hS (Nat.le_of_ble_eq_true rfl) (Nat.le_of_ble_eq_true rfl) trivial
def q_J8_newLength_cabcc_21  (post : Int32 → Mem → Prop)  (x0 : Int32) (x1 : Int32) (σ : Mem) : Prop := False
def q_J8_newLength_cabcc  (post : Int32 → Mem → Prop) (p1 : Int32) (p2 : Int32) (p3 : Int32) (σ : Mem) : Prop := (∀ v1 : Int32, v1 = (p1 + (if p2 < p3 then p3 else p2)) → ((v1 ≤ (0 : Int32) → (q_J8_newLength_cabcc_21 post) p1 p2 (σ)) ∧ (¬ (v1 ≤ (0 : Int32)) → ((2147483639 < v1 → (q_J8_newLength_cabcc_21 post) p1 p2 (σ)) ∧ (¬ (2147483639 < v1) → post v1 (σ))))))
abbrev rm_J8_newLength_cabcc : Room := { frames := 1, cells := 0, slots := 0, locals := 80 }
abbrev wq_J8_newLength_cabcc : List Cond := Cond.code yJ8_newLength_cabcc cJ8_newLength_cabcc 4 (some .int) :: wALL
set_option maxHeartbeats 4000000 in
set_option maxRecDepth 100000 in
theorem c_J8_newLength_cabcc (l : Launch) (D : va_G) (k : Nat → Nat) {sz : Nat} {σ : Mem} {p1 : Int32} {p2 : Int32} {p3 : Int32} {post : Int32 → Mem → Prop} (hp : q_J8_newLength_cabcc post p1 p2 p3 σ) : Met l yJ8_newLength_cabcc wq_J8_newLength_cabcc rm_J8_newLength_cabcc (va_Pc [.int p1, .int p2, .int p3] (Pw D k ([]) sz)) (va_Qi post (fun u => Bw D ([]) sz ([])) (va_A [] sz)) 0 0 (va_A [] sz) := by
  refine fw_i (wf := fun u : Mem => []) (by decide) rfl (Nat.le_of_ble_eq_true rfl) ?_
  intro p e s m args below meth c A Q ls hC hP hD hl hret
  obtain ⟨⟨hx, hb, hml, hown, hts⟩, hG, hA⟩ := id hC
  have hK := hG.1
  have hS : va_S A s.heap s.heap [] := va_S.rf
  have hl : lv_has ls 4 [(0, .int p1), (1, .int p2), (2, .int p3)] := hl
  have hown : s.vm.findClass RJ8 = some m.cls := hown
  unfold q_J8_newLength_cabcc at hp
  have B_21 : ∀ (x0 : Int32) (x1 : Int32) (σ : Mem) (H : Heap) (locs : List Loc) (ls : Array Slot), va_P D vwCl ([]) H → va_D A ([]) → va_S A s.heap H locs → lv_has ls 4 [(0, .int x0), (1, .int x1)] → (q_J8_newLength_cabcc_21 post) x0 x1 σ → W p l e rm_J8_newLength_cabcc s m args below meth c H locs 0 0 Q (F0 m 21 ls []) := by
    intro x0 x1 σ H locs ls hP hD hS hl hp
    unfold q_J8_newLength_cabcc_21 at hp
    refine lv_iload_n hx hb dJ8_newLength_cabcc_21 rfl (lv_at hl 0 rfl) ?_
    refine lv_iload_n hx hb dJ8_newLength_cabcc_22 rfl (lv_at hl 1 rfl) ?_
    exact hp.elim
  refine lv_iload_n hx hb dJ8_newLength_cabcc_0 rfl (lv_at hl 0 rfl) ?_
  refine lv_iload_n hx hb dJ8_newLength_cabcc_1 rfl (lv_at hl 1 rfl) ?_
  refine lv_iload_n hx hb dJ8_newLength_cabcc_2 rfl (lv_at hl 2 rfl) ?_
  refine va_mmax (x := p2) (y := p3) hx hb (by rw [hml]; exact hl.1.symm) hown (hts _ (List.mem_cons_of_mem _ A_326)) (hts _ (List.mem_cons_of_mem _ A_327)) (hts _ (List.mem_cons_of_mem _ A_328)) (hts _ (List.mem_cons_of_mem _ A_329)) (Nat.le_of_ble_eq_true rfl) (Nat.le_of_ble_eq_true rfl) (Nat.zero_le _) (Nat.zero_le _) dJ8_newLength_cabcc_3 ?_
  refine lv_iadd hx hb dJ8_newLength_cabcc_6 ?_
  refine lv_topi (fun v1 ev1 => ?_)
  have hp := hp v1 ev1
  refine lv_istore_n (lv' := [(3, .int v1), (0, .int p1), (1, .int p2), (2, .int p3)]) hx hb dJ8_newLength_cabcc_7 rfl hl (by decide) rfl (fun ls hl => ?_)
  refine lv_iconst (v := 0) hx hb dJ8_newLength_cabcc_8 (by decide) ?_
  refine lv_iload_n hx hb dJ8_newLength_cabcc_9 rfl (lv_at hl 0 rfl) ?_
  refine lv_icmp_ge (tgt := 21) hx hb dJ8_newLength_cabcc_10 (by decide) (fun c2 => ?_) (fun c2 => ?_)
  · have hp := hp.1 c2
    exact B_21 p1 p2 (σ) _ _ _  hP hD hS (lv_sub hl [1, 2] rfl) hp
  · have hp := hp.2 c2
    refine lv_iload_n hx hb dJ8_newLength_cabcc_13 rfl (lv_at hl 0 rfl) ?_
    refine lv_ldc (v := 2147483639) hx hb hown (hts _ (List.mem_cons_of_mem _ A_324)) dJ8_newLength_cabcc_14 ?_
    refine lv_icmp_gt (tgt := 21) hx hb dJ8_newLength_cabcc_16 (by decide) (fun c3 => ?_) (fun c3 => ?_)
    · have hp := hp.1 c3
      exact B_21 p1 p2 (σ) _ _ _  hP hD hS (lv_sub hl [1, 2] rfl) hp
    · have hp := hp.2 c3
      refine lv_iload_n hx hb dJ8_newLength_cabcc_19 rfl (lv_at hl 0 rfl) ?_
      exact hret v1 (σ) _ _ _ _ _ _ dJ8_newLength_cabcc_20 rfl hP hD hS (Nat.le_of_ble_eq_true rfl) (Nat.le_of_ble_eq_true rfl) hp
