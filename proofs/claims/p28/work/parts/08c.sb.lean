def q_J7_checkLength_df160  (post : Mem → Prop) (p1 : Int32) (p2 : Int32) (σ : Mem) : Prop := ((p1 ≤ p2 → post (σ)) ∧ (¬ (p1 ≤ p2) → False))
abbrev rm_J7_checkLength_df160 : Room := { frames := 0, cells := 0, slots := 0, locals := 0 }
abbrev wq_J7_checkLength_df160 : List Cond := Cond.code yJ7_checkLength_df160 cJ7_checkLength_df160 2 none :: wALL
set_option maxHeartbeats 4000000 in
set_option maxRecDepth 100000 in
theorem c_J7_checkLength_df160 (l : Launch) (D : va_G) (k : Nat → Nat) {sz : Nat} {σ : Mem} {p1 : Int32} {p2 : Int32} {post : Mem → Prop} (hp : q_J7_checkLength_df160 post p1 p2 σ) : Met l yJ7_checkLength_df160 wq_J7_checkLength_df160 rm_J7_checkLength_df160 (va_Pc [.int p1, .int p2] (Pw D k ([]) sz)) (va_Qv post (fun u => Bw D ([]) sz ([])) (va_A [] sz)) 0 0 (va_A [] sz) := by
  refine fw_v (wf := fun u : Mem => []) (by decide) rfl (Nat.le_of_ble_eq_true rfl) ?_
  intro p e s m args below meth c A Q ls hC hP hD hl hmn hret
  obtain ⟨⟨hx, hb, hml, hown, hts⟩, hG, hA⟩ := id hC
  have hK := hG.1
  have hS : va_S A s.heap s.heap [] := va_S.rf
  have hl : lv_has ls 2 [(0, .int p1), (1, .int p2)] := hl
  have hown : s.vm.findClass RJ7 = some m.cls := hown
  unfold q_J7_checkLength_df160 at hp
  refine lv_iload_n hx hb dJ7_checkLength_df160_0 rfl (lv_at hl 1 rfl) ?_
  refine lv_iload_n hx hb dJ7_checkLength_df160_1 rfl (lv_at hl 0 rfl) ?_
  refine lv_icmp_ge (tgt := 37) hx hb dJ7_checkLength_df160_2 (by decide) (fun c1 => ?_) (fun c1 => ?_)
  · have hp := hp.1 c1
    exact hret (σ) _ _ _ _ _ _ dJ7_checkLength_df160_37 hP hD hS (Nat.le_of_ble_eq_true rfl) (Nat.le_of_ble_eq_true rfl) hp
  · have hp := hp.2 c1
    exact hp.elim
abbrev rm_crb : Room := { frames := 1, cells := 1, slots := 64, locals := 80 }
abbrev wq_crb : List Cond := Cond.code yJ7_copyOfRangeByte_39247 cJ7_copyOfRangeByte_39247 5 (some (.array .byte)) :: wALL
set_option maxHeartbeats 4000000 in
set_option maxRecDepth 100000 in
theorem c_crb (l : Launch) (D : va_G) (k : Nat → Nat) (b n c7 : Nat) (f : Nat → Int32) (hc : c7 < n) (hn : n ≤ 64) (hfit : sb_Fit f) {sz : Nat} : Met l yJ7_copyOfRangeByte_39247 wq_crb rm_crb (va_Pc [.ref b, .int 0, .int (nI c7)] (Pw D k ([(b, .inl (k 4, n, .inl f))]) sz)) (va_Qr (fun w9 : Nat × Nat => w9.1 = w9.2) (fun w9 a9 t9 => a9 = w9.1 ∧ Bw D ([(b, .inl (k 4, n, .inl f))]) sz ([(b, .inl (k 4, n, .inl f))] ++ [(w9.2, .inl (k 4, c7, .inl (va_cpy f (fun _ => 0) 0 0 c7)))]) t9) (va_A ([(b, .inl (k 4, n, .inl f))]) sz)) 1 64 (va_A ([(b, .inl (k 4, n, .inl f))]) sz) := by
  refine fw_r (Or.inr ⟨_, rfl⟩) (post := fun r (u : Nat) => r = u) (y := yJ7_copyOfRangeByte_39247) (wsy := wq_crb) (cc := cJ7_copyOfRangeByte_39247) (maxL := 5) (rm := rm_crb) (mc := 1) (ms := 64) (D := D) (k := k) (W0 := [(b, .inl (k 4, n, .inl f))]) (av := [.ref b, .int 0, .int (nI c7)]) (wf := fun u : Nat => [(b, .inl (k 4, n, .inl f))] ++ [(u, .inl (k 4, c7, .inl (va_cpy f (fun _ => 0) 0 0 c7)))]) (by decide) rfl (Nat.le_of_ble_eq_true rfl) ?_
  intro p e s m args below meth c A Q ls hC hP hD hl hret
  obtain ⟨⟨hx, hb, hml, hown, hts⟩, hG, hA⟩ := id hC
  have hK := hG.1
  have hS : va_S A s.heap s.heap [] := va_S.rf
  have hl : lv_has ls 5 [(0, .ref b), (1, .int 0), (2, .int (nI c7))] := hl
  have hown : s.vm.findClass RJ7 = some m.cls := hown
  refine lv_iload_n hx hb dJ7_copyOfRangeByte_39247_0 rfl (lv_at hl 1 rfl) ?_
  refine lv_iload_n hx hb dJ7_copyOfRangeByte_39247_1 rfl (lv_at hl 2 rfl) ?_
  refine fw_cvS (As := [.int 0, .int (nI c7)]) (rest := []) hC (c_J7_checkLength_df160 l D k (post := fun _ => True) (σ := fun _ _ => 0) ⟨fun _ => trivial, fun h9 => absurd (nI_pos' (by omega)) h9⟩) (va_cwS 2 hts (gA_S A_460 A_461 A_13 A_455) rfl rfl rfl (by decide +kernel) ⟨(Nat.le_of_ble_eq_true rfl), (Nat.le_of_ble_eq_true rfl)⟩) rfl hl.1 rfl (Nat.le_of_ble_eq_true rfl) dJ7_copyOfRangeByte_39247_2 ⟨(Nat.le_of_ble_eq_true rfl), (Nat.le_of_ble_eq_true rfl)⟩ P_nil D_nil hS (Jn.pure (w0 := fun _ : Mem => []) hP hD) (fun σ7 H locs hP hD hS _ => ?_)
  refine lv_iload_n hx hb dJ7_copyOfRangeByte_39247_5 rfl (lv_at hl 2 rfl) ?_
  refine lv_iload_n hx hb dJ7_copyOfRangeByte_39247_6 rfl (lv_at hl 1 rfl) ?_
  refine lv_isub hx hb dJ7_copyOfRangeByte_39247_7 ?_
  rw [show nI c7 - 0 = nI c7 by simp]
  refine lv_istore_n (lv' := [(3, .int (nI c7)), (0, .ref b), (1, .int 0), (2, .int (nI c7))]) hx hb dJ7_copyOfRangeByte_39247_8 rfl hl (by decide) rfl (fun ls hl => ?_)
  refine lv_iload_n hx hb dJ7_copyOfRangeByte_39247_9 rfl (lv_at hl 0 rfl) ?_
  refine nw_byte hC (hts _ (List.mem_cons_of_mem _ A_308)) hP hD hS (nI_pos (by omega)) (N' := c7) (nI_clamp (by omega)) (by omega) (Nat.le_of_ble_eq_true rfl) (by show 0 + c7 ≤ 64; omega) dJ7_copyOfRangeByte_39247_10 (fun r9 H hP hD hS => ?_)
  refine lv_astore (lv' := [(4, .ref r9), (3, .int (nI c7)), (0, .ref b), (1, .int 0), (2, .int (nI c7))]) hx hb dJ7_copyOfRangeByte_39247_12 hl (by decide) rfl (fun ls hl => ?_)
  refine lv_aload_n hx hb dJ7_copyOfRangeByte_39247_14 rfl (lv_at hl 2 rfl) ?_
  refine lv_iload_n hx hb dJ7_copyOfRangeByte_39247_15 rfl (lv_at hl 3 rfl) ?_
  refine lv_aload hx hb dJ7_copyOfRangeByte_39247_16 (lv_at hl 0 rfl) ?_
  refine lv_iconst (v := 0) hx hb dJ7_copyOfRangeByte_39247_18 (by decide) ?_
  refine lv_aload_n hx hb dJ7_copyOfRangeByte_39247_19 rfl (lv_at hl 2 rfl) ?_
  refine va_alen hx hb hK hP 0 4 rfl rfl (v := nI n) rfl dJ7_copyOfRangeByte_39247_20 ?_
  refine lv_iload_n hx hb dJ7_copyOfRangeByte_39247_21 rfl (lv_at hl 3 rfl) ?_
  refine lv_isub hx hb dJ7_copyOfRangeByte_39247_22 ?_
  rw [show nI n - 0 = nI n by simp]
  refine lv_iload_n hx hb dJ7_copyOfRangeByte_39247_23 rfl (lv_at hl 1 rfl) ?_
  refine va_mmin (x := (nI n)) (y := (nI c7)) hx hb (by rw [hml]; exact hl.1.symm) hown (hts _ (List.mem_cons_of_mem _ A_344)) (hts _ (List.mem_cons_of_mem _ A_345)) (hts _ (List.mem_cons_of_mem _ A_328)) (hts _ (List.mem_cons_of_mem _ A_346)) (Nat.le_of_ble_eq_true rfl) (Nat.le_of_ble_eq_true rfl) (Nat.le_of_ble_eq_true rfl) (by show 0 + c7 ≤ 64; omega) dJ7_copyOfRangeByte_39247_24 ?_
  rw [if_pos (nI_lt hc (by omega))]
  refine va_copyi hx hb (by rw [hml]; exact hl.1.symm) hown (hts _ (List.mem_cons_of_mem _ A_347)) (hts _ (List.mem_cons_of_mem _ A_35)) (hts _ (List.mem_cons_of_mem _ A_36)) (hts _ (List.mem_cons_of_mem _ A_37)) hK hP hD hS 0 1 4 4 rfl rfl rfl rfl rfl (by decide) (by decide) (nI_pos (by omega)) (by rw [nI_clamp (by omega)]; show 0 + c7 ≤ n; omega) (by rw [nI_clamp (by omega)]; show 0 + c7 ≤ c7; omega) (fun _ _ => hfit _) (Nat.le_of_ble_eq_true rfl) (by decide +kernel) dJ7_copyOfRangeByte_39247_27 (fun H locs hP hD hS => ?_)
  rw [nI_clamp (show c7 < 2 ^ 31 by omega)] at hP hD
  refine lv_aload hx hb dJ7_copyOfRangeByte_39247_30 (lv_at hl 0 rfl) ?_
  exact hret r9 r9 _ _ _ _ _ _ dJ7_copyOfRangeByte_39247_32 hP hD hS (Nat.le_of_ble_eq_true rfl) (by first | (show 0 + c7 ≤ 64; omega) | exact Nat.le_of_ble_eq_true rfl) rfl
abbrev rm_crg : Room := { frames := 2, cells := 1, slots := 64, locals := 104 }
abbrev wq_crg : List Cond := Cond.code yJ7_copyOfRange_39247 cJ7_copyOfRange_39247 3 (some (.array .byte)) :: wALL
set_option maxHeartbeats 4000000 in
set_option maxRecDepth 100000 in
theorem c_crg (l : Launch) (D : va_G) (k : Nat → Nat) (b n c7 : Nat) (f : Nat → Int32) (hc : c7 < n) (hn : n ≤ 64) (hfit : sb_Fit f) {sz : Nat} : Met l yJ7_copyOfRange_39247 wq_crg rm_crg (va_Pc [.ref b, .int 0, .int (nI c7)] (Pw D k ([(b, .inl (k 4, n, .inl f))]) sz)) (va_Qr (fun w9 : Nat × Nat => w9.1 = w9.2) (fun w9 a9 t9 => a9 = w9.1 ∧ Bw D ([(b, .inl (k 4, n, .inl f))]) sz ([(b, .inl (k 4, n, .inl f))] ++ [(w9.2, .inl (k 4, c7, .inl (va_cpy f (fun _ => 0) 0 0 c7)))]) t9) (va_A ([(b, .inl (k 4, n, .inl f))]) sz)) 1 64 (va_A ([(b, .inl (k 4, n, .inl f))]) sz) := by
  refine fw_r (Or.inr ⟨_, rfl⟩) (post := fun r (u : Nat) => r = u) (y := yJ7_copyOfRange_39247) (wsy := wq_crg) (cc := cJ7_copyOfRange_39247) (maxL := 3) (rm := rm_crg) (mc := 1) (ms := 64) (D := D) (k := k) (W0 := [(b, .inl (k 4, n, .inl f))]) (av := [.ref b, .int 0, .int (nI c7)]) (wf := fun u : Nat => [(b, .inl (k 4, n, .inl f))] ++ [(u, .inl (k 4, c7, .inl (va_cpy f (fun _ => 0) 0 0 c7)))]) (by decide) rfl (Nat.le_of_ble_eq_true rfl) ?_
  intro p e s m args below meth c A Q ls hC hP hD hl hret
  obtain ⟨⟨hx, hb, hml, hown, hts⟩, hG, hA⟩ := id hC
  have hK := hG.1
  have hS : va_S A s.heap s.heap [] := va_S.rf
  have hl : lv_has ls 3 [(0, .ref b), (1, .int 0), (2, .int (nI c7))] := hl
  have hown : s.vm.findClass RJ7 = some m.cls := hown
  refine lv_iload_n hx hb dJ7_copyOfRange_39247_0 rfl (lv_at hl 1 rfl) ?_
  refine lv_if_ne (tgt := 10) hx hb dJ7_copyOfRange_39247_1 (by decide) (fun c9 => absurd c9 (by decide)) (fun _ => ?_)
  refine lv_iload_n hx hb dJ7_copyOfRange_39247_4 rfl (lv_at hl 2 rfl) ?_
  refine lv_aload_n hx hb dJ7_copyOfRange_39247_5 rfl (lv_at hl 0 rfl) ?_
  refine va_alen hx hb hK hP 0 4 rfl rfl (v := nI n) rfl dJ7_copyOfRange_39247_6 ?_
  refine lv_icmp_eq (tgt := 17) hx hb dJ7_copyOfRange_39247_7 (by decide) (fun h9 => absurd h9 (nI_ne (by omega) (by omega) (by omega))) (fun _ => ?_)
  refine lv_aload_n hx hb dJ7_copyOfRange_39247_10 rfl (lv_at hl 0 rfl) ?_
  refine lv_iload_n hx hb dJ7_copyOfRange_39247_11 rfl (lv_at hl 1 rfl) ?_
  refine lv_iload_n hx hb dJ7_copyOfRange_39247_12 rfl (lv_at hl 2 rfl) ?_
  refine fw_crS (S := Nat) (post := fun r u => r = u) (wf := fun u : Nat => [(b, .inl (k 4, n, .inl f))] ++ [(u, .inl (k 4, c7, .inl (va_cpy f (fun _ => 0) 0 0 c7)))]) (wN := fun u : Nat => [(b, .inl (k 4, n, .inl f))] ++ [(u, .inl (k 4, c7, .inl (va_cpy f (fun _ => 0) 0 0 c7)))]) (As := [.ref b, .int 0, .int (nI c7)]) (rest := []) hC (c_crb l D k b n c7 f hc hn hfit) (va_cwS 3 hts (gA_S A_462 A_463 A_13 A_459) rfl rfl rfl (by decide +kernel) ⟨(Nat.le_of_ble_eq_true rfl), (Nat.le_of_ble_eq_true rfl)⟩) rfl hl.1 rfl (Nat.le_of_ble_eq_true rfl) dJ7_copyOfRange_39247_13 ⟨(Nat.le_of_ble_eq_true rfl), (Nat.le_of_ble_eq_true rfl)⟩ hP hD hS Jn.same (fun r8 r9 H locs hP hD hS hr9 => ?_)
  obtain rfl : r8 = r9 := hr9
  exact hret r8 r8 _ _ _ _ _ _ dJ7_copyOfRange_39247_16 hP hD hS (Nat.le_of_ble_eq_true rfl) (by first | (show 0 + c7 ≤ 64; omega) | exact Nat.le_of_ble_eq_true rfl) rfl
