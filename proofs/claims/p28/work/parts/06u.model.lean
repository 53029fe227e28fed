def q_X8_tell_81 (ad : Nat → Nat) (g : Nat → Nat) (post : Int32 → (Nat → Nat) → (Nat → Nat) → Mem → Prop)  (x1 : Int32) (x2 : Int32) (x3 : Int32) (x4 : Int32) (x5 : Int32) (σ : Mem) : Prop := (((nI (g 0)) ≠ 30 → (g 0 < 30 ∧ (∀ (ad1 g1 : Nat → Nat) (τ1 : Mem), ad1 0 = ad 0 → gk g1 → g1 0 = g 0 + 1 → g1 2 = g 2 → τ1 = mup (mst (σ) 3 0 ((σ) 3 0 + 1)) (100 + g 0) (lnR x1 x2 x3 x4 x5 0 0) → post ((nI (g1 0)) - 1) ad1 g1 (τ1)))) ∧ ((nI (g 0)) = 30 → (q_X8_refuse (g 0) (g 2) (fun (r6002 : Int32) (σ6003 : Mem) => post r6002 ad g (σ6003)) 3 (σ))))
def q_X8_tell_75 (ad : Nat → Nat) (g : Nat → Nat) (post : Int32 → (Nat → Nat) → (Nat → Nat) → Mem → Prop)  (σ : Mem) : Prop := (q_X8_refuse (g 0) (g 2) (fun (r5001 : Int32) (σ5002 : Mem) => post r5001 ad g (σ5002)) 2 (σ))
def q_X8_tell_50 (ad : Nat → Nat) (g : Nat → Nat) (post : Int32 → (Nat → Nat) → (Nat → Nat) → Mem → Prop)  (x1 : Int32) (x2 : Int32) (x3 : Int32) (x4 : Int32) (x5 : Int32) (x6 : Int32) (x7 : Int32) (σ : Mem) : Prop := (q_X8_is (fun (r4001 : Int32) (σ4002 : Mem) => ((r4001 = 0 → (q_X8_tell_75 ad g post) (σ)) ∧ (¬ (r4001 = 0) → ((x6 = 0 → (q_X8_tell_75 ad g post) (σ)) ∧ (¬ (x6 = 0) → ((x7 = 0 → (q_X8_tell_81 ad g post) x1 x2 x3 x4 x5 (σ)) ∧ (¬ (x7 = 0) → ((x4 ≠ x3 → (q_X8_tell_81 ad g post) x1 x2 x3 x4 x5 (σ)) ∧ (x4 = x3 → (q_X8_tell_75 ad g post) (σ)))))))))) x2 0 3 (σ))
def q_X8_tell_44 (ad : Nat → Nat) (g : Nat → Nat) (post : Int32 → (Nat → Nat) → (Nat → Nat) → Mem → Prop)  (σ : Mem) : Prop := (q_X8_refuse (g 0) (g 2) (fun (r3001 : Int32) (σ3002 : Mem) => post r3001 ad g (σ3002)) 1 (σ))
def q_X8_tell_20 (ad : Nat → Nat) (g : Nat → Nat) (post : Int32 → (Nat → Nat) → (Nat → Nat) → Mem → Prop)  (s0 : Int32) (x1 : Int32) (x2 : Int32) (x3 : Int32) (x4 : Int32) (x5 : Int32) (x6 : Int32) (σ : Mem) : Prop := (q_X8_isField (g 0) (g 2) (fun (r2001 : Int32) (σ2002 : Mem) => ((r2001 = 0 → (q_X8_tell_44 ad g post) (σ2002)) ∧ (¬ (r2001 = 0) → ((s0 = 0 → (q_X8_tell_50 ad g post) x1 x2 x3 x4 x5 x6 s0 (σ2002)) ∧ (¬ (s0 = 0) → (q_X8_isField (g 0) (g 2) (fun (r2005 : Int32) (σ2006 : Mem) => ((r2005 ≠ 0 → (q_X8_tell_50 ad g post) x1 x2 x3 x4 x5 x6 s0 (σ2006)) ∧ (r2005 = 0 → (q_X8_tell_44 ad g post) (σ2006)))) x4 (σ2002))))))) x3 (σ))
def q_X8_tell_15 (ad : Nat → Nat) (g : Nat → Nat) (post : Int32 → (Nat → Nat) → (Nat → Nat) → Mem → Prop)  (x1 : Int32) (x2 : Int32) (x3 : Int32) (x4 : Int32) (x5 : Int32) (x6 : Int32) (σ : Mem) : Prop := (q_X8_tell_20 ad g post) 1 x1 x2 x3 x4 x5 x6 (σ)
def q_X8_tell (ad : Nat → Nat) (g : Nat → Nat) (post : Int32 → (Nat → Nat) → (Nat → Nat) → Mem → Prop) (p1 : Int32) (p2 : Int32) (p3 : Int32) (p4 : Int32) (p5 : Int32) (p6 : Int32) (σ : Mem) : Prop := (∀ σ1 : Mem, σ1 = mst (σ) 0 0 0 → ((p1 = 3 → (q_X8_tell_15 ad g post) p1 p2 p3 p4 p5 p6 (σ1)) ∧ (¬ (p1 = 3) → ((p1 ≠ 4 → (q_X8_tell_20 ad g post) 0 p1 p2 p3 p4 p5 p6 (σ1)) ∧ (p1 = 4 → (q_X8_tell_15 ad g post) p1 p2 p3 p4 p5 p6 (σ1))))))
abbrev rm_X8_tell : Room := { frames := 14, cells := 2, slots := 40, locals := 700 }
abbrev wq_X8_tell : List Cond := Cond.code yX8_tell cX8_tell 9 (some .int) :: wALL
set_option maxHeartbeats 4000000 in
set_option maxRecDepth 100000 in
theorem c_X8_tell (l : Launch) (D : va_G) (k ad g : Nat → Nat) (hgk : gk g) {sz : Nat} {σ : Mem} {p1 : Int32} {p2 : Int32} {p3 : Int32} {p4 : Int32} {p5 : Int32} {p6 : Int32} {post : Int32 → (Nat → Nat) → (Nat → Nat) → Mem → Prop} (hp : q_X8_tell ad g post p1 p2 p3 p4 p5 p6 σ) : Met l yX8_tell wq_X8_tell rm_X8_tell (va_Pc [.ref (ad 0), .int p1, .int p2, .int p3, .int p4, .int p5, .int p6] (Pw D k (WM k ad g σ) sz)) (va_Qi (fun r (u : (Nat → Nat) × (Nat → Nat) × Mem) => post r u.1 u.2.1 u.2.2) (fun u => Bw D (WM k ad g σ) sz (WM k u.1 u.2.1 u.2.2)) (va_A (WM k ad g σ) sz)) 2 40 (va_A (WM k ad g σ) sz) := by
  have hg := hgk.1
  refine fw_i (wf := fun u : (Nat → Nat) × (Nat → Nat) × Mem => WM k u.1 u.2.1 u.2.2) (post := fun r u => post r u.1 u.2.1 u.2.2) (by decide) rfl (Nat.le_of_ble_eq_true rfl) ?_
  intro p e s m args below meth c A Q ls hC hP hD hl hret
  obtain ⟨⟨hx, hb, hml, hown, hts⟩, hG, hA⟩ := id hC
  have hK := hG.1
  have hS : va_S A s.heap s.heap [] := va_S.rf
  have hin_X8 : ∀ w ∈ u_ws RX8 TX8 15, w ∈ wq_X8_tell := fun w h => List.mem_cons_of_mem _ (iU_X8 w h)
  have hf_41 := hts _ (List.mem_cons_of_mem _ A_595)
  have hf_19 := hts _ (List.mem_cons_of_mem _ A_584)
  have hin_X7 : ∀ w ∈ u_ws RX7 TX7 7, w ∈ wq_X8_tell := fun w h => List.mem_cons_of_mem _ (iU_X7 w h)
  have hl : lv_has ls 9 [(0, .ref (ad 0)), (1, .int p1), (2, .int p2), (3, .int p3), (4, .int p4), (5, .int p5), (6, .int p6)] := hl
  have hown : s.vm.findClass RX8 = some m.cls := hown
  unfold q_X8_tell at hp
  have B_81 : ∀ (x1 : Int32) (x2 : Int32) (x3 : Int32) (x4 : Int32) (x5 : Int32) (σ : Mem) (H : Heap) (locs : List Loc) (ls : Array Slot), va_P D vwCl (WM k ad g (σ)) H → va_D A (WM k ad g (σ)) → va_S A s.heap H locs → lv_has ls 9 [(0, .ref (ad 0)), (1, .int x1), (2, .int x2), (3, .int x3), (4, .int x4), (5, .int x5)] → (q_X8_tell_81 ad g post) x1 x2 x3 x4 x5 σ → W p l e rm_X8_tell s m args below meth c H locs 0 0 Q (F0 m 81 ls []) := by
    intro x1 x2 x3 x4 x5 σ H locs ls hP hD hS hl hp
    unfold q_X8_tell_81 at hp
    refine lv_aload_n hx hb dX8_tell_81 rfl (lv_at hl 0 rfl) ?_
    refine va_get (D := D) (ci := 12) (C := RX8) (T := TX8) (N := 15) hx hb hts hin_X8 hown hK hP 0 rfl rfl 4 (by decide) hf_19 (fun _ h9 => h9) rfl dX8_tell_82 ?_
    refine wm_size_line (rest := []) hC (gA_V (a := Cond.code yX8_tell cX8_tell 9 (some .int)) A_605 A_606 A_607 A_583 A_602) hl.1 rfl (Nat.le_of_ble_eq_true rfl) (Nat.le_of_ble_eq_true rfl) (Nat.le_of_ble_eq_true rfl) dX8_tell_85 ⟨Nat.le_of_ble_eq_true rfl, Nat.le_of_ble_eq_true rfl⟩ hP hD hS (fun H locs hP hD hS => ?_)
    refine lv_bipush (v := 30) hx hb dX8_tell_88 (by decide) ?_
    refine lv_icmp_ne (tgt := 99) hx hb dX8_tell_90 (by decide) (fun c60001 => ?_) (fun c60001 => ?_)
    · have hp := hp.1 c60001
      refine va_new (ci := 11) (fs := [.int 0, .int 0, .int 0, .int 0, .int 0, .int 0, .int 0]) (C := RX7) (T := TX7) (N := 7) hx hb hts hin_X7 tyX7 tyX7_ok hown (hts _ (List.mem_cons_of_mem _ A_662)) (hts _ (List.mem_cons_of_mem _ A_663)) (hts _ (List.mem_cons_of_mem _ A_664)) hK hP hD hS hA rfl (fun j hj => by rcases (show j = 0 ∨ j = 1 ∨ j = 2 ∨ j = 3 ∨ j = 4 ∨ j = 5 ∨ j = 6 by omega) with rfl | rfl | rfl | rfl | rfl | rfl | rfl <;> rfl) (Nat.le_of_ble_eq_true rfl) (Nat.le_of_ble_eq_true rfl) dX8_tell_99 (fun q9 H hP hD hS => ?_)
      refine lv_dup hx hb dX8_tell_102 rfl ?_
      refine fw_cvIN (As := []) (rest := [.ref q9]) hC (c_X7_init l D k q9) ⟨va_cnB 0 hts (gA_0 A_563) rfl rfl rfl (GG.nm hG (q := (RX8, 90, yX7_init, "MeetjoinModel")) 4 rfl) (hts _ (List.mem_cons_of_mem _ A_664)) (by decide +kernel) ⟨Nat.le_of_ble_eq_true rfl, Nat.le_of_ble_eq_true rfl⟩, rfl, (hts _ (List.mem_cons_of_mem _ A_668))⟩ rfl hl.1 rfl (Nat.le_of_ble_eq_true rfl) dX8_tell_103 ⟨Nat.le_of_ble_eq_true rfl, Nat.le_of_ble_eq_true rfl⟩ (P_right hP) (D_right hD) hS (Jn.right hP hD) (fun u9 H locs hP hD hS _ => ?_)
      have hP : va_P D vwCl (WM k ad g (σ) ++ [(q9, .inr (11, [.int 0, .int 0, .int 0, .int 0, .int 0, .int 0, .int 0]))]) H := hP
      have hD : va_D A (WM k ad g (σ) ++ [(q9, .inr (11, [.int 0, .int 0, .int 0, .int 0, .int 0, .int 0, .int 0]))]) := hD
      refine lv_astore (lv' := [(8, .ref q9), (0, .ref (ad 0)), (1, .int x1), (2, .int x2), (3, .int x3), (4, .int x4), (5, .int x5)]) hx hb dX8_tell_106 hl (by decide) rfl (fun ls hl => ?_)
      refine lv_aload hx hb dX8_tell_108 (lv_at hl 0 rfl) ?_
      refine lv_iload_n hx hb dX8_tell_110 rfl (lv_at hl 2 rfl) ?_
      refine va_putN (D := D) (ci := 11) (v := .int x1) (ty := .int) (C := RX7) (T := TX7) (N := 7) hx hb hts hin_X7 tyX7 tyX7_ok nmX7 hown hK hP hD hS ((WM k ad g (σ)).length + 0) (app_r rfl) rfl 0 (by decide) (va_Nw.use rfl (GG.nf hG (q := (RX8, 79, "MeetjoinModel$Line", "kind", "I", "MeetjoinModel")) 6 rfl)) (fun _ h9 => h9) rfl (by decide +kernel) rfl rfl (Nat.le_of_ble_eq_true rfl) dX8_tell_111 (fun H locs hP hD hS => ?_)
      rw [sapp rfl 0] at hP hD
      have hP : va_P D vwCl (WM k ad g (σ) ++ [(q9, .inr (11, [.int x1, .int 0, .int 0, .int 0, .int 0, .int 0, .int 0]))]) H := hP
      have hD : va_D A (WM k ad g (σ) ++ [(q9, .inr (11, [.int x1, .int 0, .int 0, .int 0, .int 0, .int 0, .int 0]))]) := hD
      refine lv_aload hx hb dX8_tell_114 (lv_at hl 0 rfl) ?_
      refine lv_iload_n hx hb dX8_tell_116 rfl (lv_at hl 3 rfl) ?_
      refine va_putN (D := D) (ci := 11) (v := .int x2) (ty := .int) (C := RX7) (T := TX7) (N := 7) hx hb hts hin_X7 tyX7 tyX7_ok nmX7 hown hK hP hD hS ((WM k ad g (σ)).length + 0) (app_r rfl) rfl 1 (by decide) (va_Nw.use rfl (GG.nf hG (q := (RX8, 62, "MeetjoinModel$Line", "team", "I", "MeetjoinModel")) 3 rfl)) (fun _ h9 => h9) rfl (by decide +kernel) rfl rfl (Nat.le_of_ble_eq_true rfl) dX8_tell_117 (fun H locs hP hD hS => ?_)
      rw [sapp rfl 0] at hP hD
      have hP : va_P D vwCl (WM k ad g (σ) ++ [(q9, .inr (11, [.int x1, .int x2, .int 0, .int 0, .int 0, .int 0, .int 0]))]) H := hP
      have hD : va_D A (WM k ad g (σ) ++ [(q9, .inr (11, [.int x1, .int x2, .int 0, .int 0, .int 0, .int 0, .int 0]))]) := hD
      refine lv_aload hx hb dX8_tell_120 (lv_at hl 0 rfl) ?_
      refine lv_iload_n hx hb dX8_tell_122 rfl (lv_at hl 4 rfl) ?_
      refine va_putN (D := D) (ci := 11) (v := .int x3) (ty := .int) (C := RX7) (T := TX7) (N := 7) hx hb hts hin_X7 tyX7 tyX7_ok nmX7 hown hK hP hD hS ((WM k ad g (σ)).length + 0) (app_r rfl) rfl 2 (by decide) (va_Nw.use rfl (GG.nf hG (q := (RX8, 65, "MeetjoinModel$Line", "field", "I", "MeetjoinModel")) 4 rfl)) (fun _ h9 => h9) rfl (by decide +kernel) rfl rfl (Nat.le_of_ble_eq_true rfl) dX8_tell_123 (fun H locs hP hD hS => ?_)
      rw [sapp rfl 0] at hP hD
      have hP : va_P D vwCl (WM k ad g (σ) ++ [(q9, .inr (11, [.int x1, .int x2, .int x3, .int 0, .int 0, .int 0, .int 0]))]) H := hP
      have hD : va_D A (WM k ad g (σ) ++ [(q9, .inr (11, [.int x1, .int x2, .int x3, .int 0, .int 0, .int 0, .int 0]))]) := hD
      refine lv_aload hx hb dX8_tell_126 (lv_at hl 0 rfl) ?_
      refine lv_iload hx hb dX8_tell_128 (lv_at hl 5 rfl) ?_
      refine va_putN (D := D) (ci := 11) (v := .int x4) (ty := .int) (C := RX7) (T := TX7) (N := 7) hx hb hts hin_X7 tyX7 tyX7_ok nmX7 hown hK hP hD hS ((WM k ad g (σ)).length + 0) (app_r rfl) rfl 3 (by decide) (va_Nw.use rfl (GG.nf hG (q := (RX8, 91, "MeetjoinModel$Line", "what", "I", "MeetjoinModel")) 7 rfl)) (fun _ h9 => h9) rfl (by decide +kernel) rfl rfl (Nat.le_of_ble_eq_true rfl) dX8_tell_130 (fun H locs hP hD hS => ?_)
      rw [sapp rfl 0] at hP hD
      have hP : va_P D vwCl (WM k ad g (σ) ++ [(q9, .inr (11, [.int x1, .int x2, .int x3, .int x4, .int 0, .int 0, .int 0]))]) H := hP
      have hD : va_D A (WM k ad g (σ) ++ [(q9, .inr (11, [.int x1, .int x2, .int x3, .int x4, .int 0, .int 0, .int 0]))]) := hD
      refine lv_aload hx hb dX8_tell_133 (lv_at hl 0 rfl) ?_
      refine lv_iload hx hb dX8_tell_135 (lv_at hl 6 rfl) ?_
      refine va_putN (D := D) (ci := 11) (v := .int x5) (ty := .int) (C := RX7) (T := TX7) (N := 7) hx hb hts hin_X7 tyX7 tyX7_ok nmX7 hown hK hP hD hS ((WM k ad g (σ)).length + 0) (app_r rfl) rfl 4 (by decide) (va_Nw.use rfl (GG.nf hG (q := (RX8, 94, "MeetjoinModel$Line", "by", "I", "MeetjoinModel")) 8 rfl)) (fun _ h9 => h9) rfl (by decide +kernel) rfl rfl (Nat.le_of_ble_eq_true rfl) dX8_tell_137 (fun H locs hP hD hS => ?_)
      rw [sapp rfl 0] at hP hD
      have hP : va_P D vwCl (WM k ad g (σ) ++ [(q9, .inr (11, [.int x1, .int x2, .int x3, .int x4, .int x5, .int 0, .int 0]))]) H := hP
      have hD : va_D A (WM k ad g (σ) ++ [(q9, .inr (11, [.int x1, .int x2, .int x3, .int x4, .int x5, .int 0, .int 0]))]) := hD
      refine lv_aload_n hx hb dX8_tell_140 rfl (lv_at hl 1 rfl) ?_
      refine va_get (D := D) (ci := 12) (C := RX8) (T := TX8) (N := 15) hx hb hts hin_X8 hown hK hP 0 rfl rfl 4 (by decide) hf_19 (fun _ h9 => h9) rfl dX8_tell_141 ?_
      refine lv_aload hx hb dX8_tell_144 (lv_at hl 0 rfl) ?_
      obtain ⟨h39, hp⟩ := hp
      refine wm_add_l (rest := []) hC hgk h39 (gA_V (a := Cond.code yX8_tell cX8_tell 9 (some .int)) A_669 A_670 A_671 A_583 A_661) hl.1 rfl (Nat.le_of_ble_eq_true rfl) (Nat.le_of_ble_eq_true rfl) (Nat.le_of_ble_eq_true rfl) dX8_tell_146 ⟨Nat.le_of_ble_eq_true rfl, Nat.le_of_ble_eq_true rfl⟩ hP hD hS (fun ad1 g1 τ1 q0 q1 q2 q3 q4 H locs hP hD hS => ?_)
      have hp := hp ad1 g1 τ1 q0 q1 q2 q3 q4
      rw [← q0] at hl
      refine lv_pop hx hb dX8_tell_149 rfl ?_
      refine lv_aload_n hx hb dX8_tell_150 rfl (lv_at hl 1 rfl) ?_
      refine va_get (D := D) (ci := 12) (C := RX8) (T := TX8) (N := 15) hx hb hts hin_X8 hown hK hP 0 rfl rfl 4 (by decide) hf_19 (fun _ h9 => h9) rfl dX8_tell_151 ?_
      refine wm_size_line (rest := []) hC (gA_V (a := Cond.code yX8_tell cX8_tell 9 (some .int)) A_605 A_606 A_607 A_583 A_602) hl.1 rfl (Nat.le_of_ble_eq_true rfl) (Nat.le_of_ble_eq_true rfl) (Nat.le_of_ble_eq_true rfl) dX8_tell_154 ⟨Nat.le_of_ble_eq_true rfl, Nat.le_of_ble_eq_true rfl⟩ hP hD hS (fun H locs hP hD hS => ?_)
      refine lv_iconst (v := 1) hx hb dX8_tell_157 (by decide) ?_
      refine lv_isub hx hb dX8_tell_158 ?_
      exact hret ((nI (g1 0)) - 1) (ad1, g1, τ1) _ _ _ _ _ _ dX8_tell_159 rfl hP hD hS (Nat.le_of_ble_eq_true rfl) (Nat.le_of_ble_eq_true rfl) hp
    · have hp := hp.2 c60001
      refine lv_aload_n hx hb dX8_tell_93 rfl (lv_at hl 0 rfl) ?_
      refine lv_iconst (v := 3) hx hb dX8_tell_94 (by decide) ?_
      refine fw_ciV (As := [.int 3]) (rest := []) hC (c_X8_refuse l D k ad g hg hp) (cwV 1 hts (gA_V A_629 A_630 A_631 A_601 A_594) rfl rfl rfl (by decide +kernel) ⟨Nat.le_of_ble_eq_true rfl, Nat.le_of_ble_eq_true rfl⟩) (va_recv hK hP (ci := 12) (q0 := 0) rfl rfl) rfl hl.1 rfl (Nat.le_of_ble_eq_true rfl) dX8_tell_95 ⟨Nat.le_of_ble_eq_true rfl, Nat.le_of_ble_eq_true rfl⟩ hP hD hS Jn.same (fun r60002 σ60003 H locs hP hD hS hp => ?_)
      have hP : va_P D vwCl (WM k ad g (σ60003)) H := hP
      have hD : va_D A (WM k ad g (σ60003)) := hD
      exact hret r60002 (ad, g, σ60003) _ _ _ _ _ _ dX8_tell_98 rfl hP hD hS (Nat.le_of_ble_eq_true rfl) (Nat.le_of_ble_eq_true rfl) hp
  have B_75 : ∀  (σ : Mem) (H : Heap) (locs : List Loc) (ls : Array Slot), va_P D vwCl (WM k ad g (σ)) H → va_D A (WM k ad g (σ)) → va_S A s.heap H locs → lv_has ls 9 [(0, .ref (ad 0))] → (q_X8_tell_75 ad g post)  σ → W p l e rm_X8_tell s m args below meth c H locs 0 0 Q (F0 m 75 ls []) := by
    intro  σ H locs ls hP hD hS hl hp
    unfold q_X8_tell_75 at hp
    refine lv_aload_n hx hb dX8_tell_75 rfl (lv_at hl 0 rfl) ?_
    refine lv_iconst (v := 2) hx hb dX8_tell_76 (by decide) ?_
    refine fw_ciV (As := [.int 2]) (rest := []) hC (c_X8_refuse l D k ad g hg hp) (cwV 1 hts (gA_V A_629 A_630 A_631 A_601 A_594) rfl rfl rfl (by decide +kernel) ⟨Nat.le_of_ble_eq_true rfl, Nat.le_of_ble_eq_true rfl⟩) (va_recv hK hP (ci := 12) (q0 := 0) rfl rfl) rfl hl.1 rfl (Nat.le_of_ble_eq_true rfl) dX8_tell_77 ⟨Nat.le_of_ble_eq_true rfl, Nat.le_of_ble_eq_true rfl⟩ hP hD hS Jn.same (fun r50001 σ50002 H locs hP hD hS hp => ?_)
    have hP : va_P D vwCl (WM k ad g (σ50002)) H := hP
    have hD : va_D A (WM k ad g (σ50002)) := hD
    exact hret r50001 (ad, g, σ50002) _ _ _ _ _ _ dX8_tell_80 rfl hP hD hS (Nat.le_of_ble_eq_true rfl) (Nat.le_of_ble_eq_true rfl) hp
  have B_50 : ∀ (x1 : Int32) (x2 : Int32) (x3 : Int32) (x4 : Int32) (x5 : Int32) (x6 : Int32) (x7 : Int32) (σ : Mem) (H : Heap) (locs : List Loc) (ls : Array Slot), va_P D vwCl (WM k ad g (σ)) H → va_D A (WM k ad g (σ)) → va_S A s.heap H locs → lv_has ls 9 [(0, .ref (ad 0)), (1, .int x1), (2, .int x2), (3, .int x3), (4, .int x4), (5, .int x5), (6, .int x6), (7, .int x7)] → (q_X8_tell_50 ad g post) x1 x2 x3 x4 x5 x6 x7 σ → W p l e rm_X8_tell s m args below meth c H locs 0 0 Q (F0 m 50 ls []) := by
    intro x1 x2 x3 x4 x5 x6 x7 σ H locs ls hP hD hS hl hp
    unfold q_X8_tell_50 at hp
    refine lv_iload_n hx hb dX8_tell_50 rfl (lv_at hl 2 rfl) ?_
    refine lv_iconst (v := 0) hx hb dX8_tell_51 (by decide) ?_
    refine lv_iconst (v := 3) hx hb dX8_tell_52 (by decide) ?_
    refine fw_ciS (As := [.int x2, .int 0, .int 3]) (rest := []) hC (c_X8_is l D k hp) (va_cwS 3 hts (gA_S A_599 A_600 A_601 A_596) rfl rfl rfl (by decide +kernel) ⟨Nat.le_of_ble_eq_true rfl, Nat.le_of_ble_eq_true rfl⟩) rfl hl.1 rfl (Nat.le_of_ble_eq_true rfl) dX8_tell_53 ⟨Nat.le_of_ble_eq_true rfl, Nat.le_of_ble_eq_true rfl⟩ P_nil D_nil hS (Jn.pure (w0 := fun _ : Mem => []) hP hD) (fun r40001 σ40002 H locs hP hD hS hp => ?_)
    have hP : va_P D vwCl (WM k ad g (σ)) H := hP
    have hD : va_D A (WM k ad g (σ)) := hD
    refine lv_if_eq (tgt := 75) hx hb dX8_tell_56 (by decide) (fun c40003 => ?_) (fun c40003 => ?_)
    · have hp := hp.1 c40003
      exact B_75  (σ) _ _ _  hP hD hS (lv_sub hl [0] rfl) hp
    · have hp := hp.2 c40003
      refine lv_iload hx hb dX8_tell_59 (lv_at hl 6 rfl) ?_
      refine lv_if_eq (tgt := 75) hx hb dX8_tell_61 (by decide) (fun c40004 => ?_) (fun c40004 => ?_)
      · have hp := hp.1 c40004
        exact B_75  (σ) _ _ _  hP hD hS (lv_sub hl [0] rfl) hp
      · have hp := hp.2 c40004
        refine lv_iload hx hb dX8_tell_64 (lv_at hl 7 rfl) ?_
        refine lv_if_eq (tgt := 81) hx hb dX8_tell_66 (by decide) (fun c40005 => ?_) (fun c40005 => ?_)
        · have hp := hp.1 c40005
          exact B_81 x1 x2 x3 x4 x5 (σ) _ _ _  hP hD hS (lv_sub hl [0, 1, 2, 3, 4, 5] rfl) hp
        · have hp := hp.2 c40005
          refine lv_iload hx hb dX8_tell_69 (lv_at hl 4 rfl) ?_
          refine lv_iload_n hx hb dX8_tell_71 rfl (lv_at hl 3 rfl) ?_
          refine lv_icmp_ne (tgt := 81) hx hb dX8_tell_72 (by decide) (fun c40006 => ?_) (fun c40006 => ?_)
          · have hp := hp.1 c40006
            exact B_81 x1 x2 x3 x4 x5 (σ) _ _ _  hP hD hS (lv_sub hl [0, 1, 2, 3, 4, 5] rfl) hp
          · have hp := hp.2 c40006
            exact B_75  (σ) _ _ _  hP hD hS (lv_sub hl [0] rfl) hp
  have B_44 : ∀  (σ : Mem) (H : Heap) (locs : List Loc) (ls : Array Slot), va_P D vwCl (WM k ad g (σ)) H → va_D A (WM k ad g (σ)) → va_S A s.heap H locs → lv_has ls 9 [(0, .ref (ad 0))] → (q_X8_tell_44 ad g post)  σ → W p l e rm_X8_tell s m args below meth c H locs 0 0 Q (F0 m 44 ls []) := by
    intro  σ H locs ls hP hD hS hl hp
    unfold q_X8_tell_44 at hp
    refine lv_aload_n hx hb dX8_tell_44 rfl (lv_at hl 0 rfl) ?_
    refine lv_iconst (v := 1) hx hb dX8_tell_45 (by decide) ?_
    refine fw_ciV (As := [.int 1]) (rest := []) hC (c_X8_refuse l D k ad g hg hp) (cwV 1 hts (gA_V A_629 A_630 A_631 A_601 A_594) rfl rfl rfl (by decide +kernel) ⟨Nat.le_of_ble_eq_true rfl, Nat.le_of_ble_eq_true rfl⟩) (va_recv hK hP (ci := 12) (q0 := 0) rfl rfl) rfl hl.1 rfl (Nat.le_of_ble_eq_true rfl) dX8_tell_46 ⟨Nat.le_of_ble_eq_true rfl, Nat.le_of_ble_eq_true rfl⟩ hP hD hS Jn.same (fun r30001 σ30002 H locs hP hD hS hp => ?_)
    have hP : va_P D vwCl (WM k ad g (σ30002)) H := hP
    have hD : va_D A (WM k ad g (σ30002)) := hD
    exact hret r30001 (ad, g, σ30002) _ _ _ _ _ _ dX8_tell_49 rfl hP hD hS (Nat.le_of_ble_eq_true rfl) (Nat.le_of_ble_eq_true rfl) hp
  have B_20 : ∀ (s0 : Int32) (x1 : Int32) (x2 : Int32) (x3 : Int32) (x4 : Int32) (x5 : Int32) (x6 : Int32) (σ : Mem) (H : Heap) (locs : List Loc) (ls : Array Slot), va_P D vwCl (WM k ad g (σ)) H → va_D A (WM k ad g (σ)) → va_S A s.heap H locs → lv_has ls 9 [(0, .ref (ad 0)), (1, .int x1), (2, .int x2), (3, .int x3), (4, .int x4), (5, .int x5), (6, .int x6)] → (q_X8_tell_20 ad g post) s0 x1 x2 x3 x4 x5 x6 σ → W p l e rm_X8_tell s m args below meth c H locs 0 0 Q (F0 m 20 ls [.int s0]) := by
    intro s0 x1 x2 x3 x4 x5 x6 σ H locs ls hP hD hS hl hp
    unfold q_X8_tell_20 at hp
    refine lv_istore (lv' := [(7, .int s0), (0, .ref (ad 0)), (1, .int x1), (2, .int x2), (3, .int x3), (4, .int x4), (5, .int x5), (6, .int x6)]) hx hb dX8_tell_20 hl (by decide) rfl (fun ls hl => ?_)
    refine lv_aload_n hx hb dX8_tell_22 rfl (lv_at hl 1 rfl) ?_
    refine lv_iload_n hx hb dX8_tell_23 rfl (lv_at hl 4 rfl) ?_
    refine fw_ciV (As := [.int x3]) (rest := []) hC (c_X8_isField l D k ad g hg hp) (cwV 1 hts (gA_V A_665 A_666 A_667 A_601 A_597) rfl rfl rfl (by decide +kernel) ⟨Nat.le_of_ble_eq_true rfl, Nat.le_of_ble_eq_true rfl⟩) (va_recv hK hP (ci := 12) (q0 := 0) rfl rfl) rfl hl.1 rfl (Nat.le_of_ble_eq_true rfl) dX8_tell_24 ⟨Nat.le_of_ble_eq_true rfl, Nat.le_of_ble_eq_true rfl⟩ hP hD hS Jn.same (fun r20001 σ20002 H locs hP hD hS hp => ?_)
    have hP : va_P D vwCl (WM k ad g (σ20002)) H := hP
    have hD : va_D A (WM k ad g (σ20002)) := hD
    refine lv_if_eq (tgt := 44) hx hb dX8_tell_27 (by decide) (fun c20003 => ?_) (fun c20003 => ?_)
    · have hp := hp.1 c20003
      exact B_44  (σ20002) _ _ _  hP hD hS (lv_sub hl [1] rfl) hp
    · have hp := hp.2 c20003
      refine lv_iload hx hb dX8_tell_30 (lv_at hl 0 rfl) ?_
      refine lv_if_eq (tgt := 50) hx hb dX8_tell_32 (by decide) (fun c20004 => ?_) (fun c20004 => ?_)
      · have hp := hp.1 c20004
        exact B_50 x1 x2 x3 x4 x5 x6 s0 (σ20002) _ _ _  hP hD hS (lv_sub hl [1, 2, 3, 4, 5, 6, 7, 0] rfl) hp
      · have hp := hp.2 c20004
        refine lv_aload_n hx hb dX8_tell_35 rfl (lv_at hl 1 rfl) ?_
        refine lv_iload hx hb dX8_tell_36 (lv_at hl 5 rfl) ?_
        refine fw_ciV (As := [.int x4]) (rest := []) hC (c_X8_isField l D k ad g hg hp) (cwV 1 hts (gA_V A_665 A_666 A_667 A_601 A_597) rfl rfl rfl (by decide +kernel) ⟨Nat.le_of_ble_eq_true rfl, Nat.le_of_ble_eq_true rfl⟩) (va_recv hK hP (ci := 12) (q0 := 0) rfl rfl) rfl hl.1 rfl (Nat.le_of_ble_eq_true rfl) dX8_tell_38 ⟨Nat.le_of_ble_eq_true rfl, Nat.le_of_ble_eq_true rfl⟩ hP hD hS Jn.same (fun r20005 σ20006 H locs hP hD hS hp => ?_)
        have hP : va_P D vwCl (WM k ad g (σ20006)) H := hP
        have hD : va_D A (WM k ad g (σ20006)) := hD
        refine lv_if_ne (tgt := 50) hx hb dX8_tell_41 (by decide) (fun c20007 => ?_) (fun c20007 => ?_)
        · have hp := hp.1 c20007
          exact B_50 x1 x2 x3 x4 x5 x6 s0 (σ20006) _ _ _  hP hD hS (lv_sub hl [1, 2, 3, 4, 5, 6, 7, 0] rfl) hp
        · have hp := hp.2 c20007
          exact B_44  (σ20006) _ _ _  hP hD hS (lv_sub hl [1] rfl) hp
  have B_15 : ∀ (x1 : Int32) (x2 : Int32) (x3 : Int32) (x4 : Int32) (x5 : Int32) (x6 : Int32) (σ : Mem) (H : Heap) (locs : List Loc) (ls : Array Slot), va_P D vwCl (WM k ad g (σ)) H → va_D A (WM k ad g (σ)) → va_S A s.heap H locs → lv_has ls 9 [(0, .ref (ad 0)), (1, .int x1), (2, .int x2), (3, .int x3), (4, .int x4), (5, .int x5), (6, .int x6)] → (q_X8_tell_15 ad g post) x1 x2 x3 x4 x5 x6 σ → W p l e rm_X8_tell s m args below meth c H locs 0 0 Q (F0 m 15 ls []) := by
    intro x1 x2 x3 x4 x5 x6 σ H locs ls hP hD hS hl hp
    unfold q_X8_tell_15 at hp
    refine lv_iconst (v := 1) hx hb dX8_tell_15 (by decide) ?_
    refine lv_goto (tgt := 20) hx hb dX8_tell_16 (by decide) ?_
    exact B_20 1 x1 x2 x3 x4 x5 x6 (σ) _ _ _  hP hD hS (lv_sub hl [0, 1, 2, 3, 4, 5, 6] rfl) hp
  refine lv_aload_n hx hb dX8_tell_0 rfl (lv_at hl 0 rfl) ?_
  refine lv_iconst (v := 0) hx hb dX8_tell_1 (by decide) ?_
  refine va_put (D := D) (ci := 12) (v := .int 0) (ty := .int) (C := RX8) (T := TX8) (N := 15) hx hb hts hin_X8 tyX8 tyX8_ok nmX8 hown hK hP hD hS 0 rfl rfl 0 (by decide) hf_41 (fun _ h9 => h9) rfl (by decide +kernel) rfl rfl (Nat.le_of_ble_eq_true rfl) dX8_tell_2 (fun H locs hP hD hS => ?_)
  obtain ⟨σ1, eσ1⟩ : ∃ z : Mem, z = mst (σ) 0 0 0 := ⟨_, rfl⟩
  have hp := hp σ1 eσ1
  have hP : va_P D vwCl (WM k ad g (σ1)) H := by rw [eσ1, WM_s (by decide)]; exact hP
  have hD : va_D A (WM k ad g (σ1)) := by rw [eσ1, WM_s (by decide)]; exact hD
  refine lv_iload_n hx hb dX8_tell_5 rfl (lv_at hl 1 rfl) ?_
  refine lv_iconst (v := 3) hx hb dX8_tell_6 (by decide) ?_
  refine lv_icmp_eq (tgt := 15) hx hb dX8_tell_7 (by decide) (fun c2 => ?_) (fun c2 => ?_)
  · have hp := hp.1 c2
    exact B_15 p1 p2 p3 p4 p5 p6 (σ1) _ _ _  hP hD hS (lv_sub hl [0, 1, 2, 3, 4, 5, 6] rfl) hp
  · have hp := hp.2 c2
    refine lv_iload_n hx hb dX8_tell_10 rfl (lv_at hl 1 rfl) ?_
    refine lv_iconst (v := 4) hx hb dX8_tell_11 (by decide) ?_
    refine lv_icmp_ne (tgt := 19) hx hb dX8_tell_12 (by decide) (fun c3 => ?_) (fun c3 => ?_)
    · have hp := hp.1 c3
      refine lv_iconst (v := 0) hx hb dX8_tell_19 (by decide) ?_
      exact B_20 0 p1 p2 p3 p4 p5 p6 (σ1) _ _ _  hP hD hS (lv_sub hl [0, 1, 2, 3, 4, 5, 6] rfl) hp
    · have hp := hp.2 c3
      exact B_15 p1 p2 p3 p4 p5 p6 (σ1) _ _ _  hP hD hS (lv_sub hl [0, 1, 2, 3, 4, 5, 6] rfl) hp
def q_X8_oneOf (ad : Nat → Nat) (g : Nat → Nat) (post : Int32 → (Nat → Nat) → (Nat → Nat) → Mem → Prop) (p1 : Int32) (p2 : Int32) (p3 : Int32) (σ : Mem) : Prop := (q_X8_is (fun (r1 : Int32) (σ2 : Mem) => (q_X8_tell ad g (fun (r3 : Int32) (ad4 g5 : Nat → Nat) (σ6 : Mem) => post r3 ad4 g5 (σ6)) 0 p1 p2 p3 0 r1 (σ))) p3 1 255 (σ))
abbrev rm_X8_oneOf : Room := { frames := 15, cells := 2, slots := 40, locals := 728 }
abbrev wq_X8_oneOf : List Cond := Cond.code yX8_oneOf cX8_oneOf 4 (some .int) :: wALL
set_option maxHeartbeats 4000000 in
set_option maxRecDepth 100000 in
theorem c_X8_oneOf (l : Launch) (D : va_G) (k ad g : Nat → Nat) (hgk : gk g) {sz : Nat} {σ : Mem} {p1 : Int32} {p2 : Int32} {p3 : Int32} {post : Int32 → (Nat → Nat) → (Nat → Nat) → Mem → Prop} (hp : q_X8_oneOf ad g post p1 p2 p3 σ) : Met l yX8_oneOf wq_X8_oneOf rm_X8_oneOf (va_Pc [.ref (ad 0), .int p1, .int p2, .int p3] (Pw D k (WM k ad g σ) sz)) (va_Qi (fun r (u : (Nat → Nat) × (Nat → Nat) × Mem) => post r u.1 u.2.1 u.2.2) (fun u => Bw D (WM k ad g σ) sz (WM k u.1 u.2.1 u.2.2)) (va_A (WM k ad g σ) sz)) 2 40 (va_A (WM k ad g σ) sz) := by
  have hg := hgk.1
  refine fw_i (wf := fun u : (Nat → Nat) × (Nat → Nat) × Mem => WM k u.1 u.2.1 u.2.2) (post := fun r u => post r u.1 u.2.1 u.2.2) (by decide) rfl (Nat.le_of_ble_eq_true rfl) ?_
  intro p e s m args below meth c A Q ls hC hP hD hl hret
  obtain ⟨⟨hx, hb, hml, hown, hts⟩, hG, hA⟩ := id hC
  have hK := hG.1
  have hS : va_S A s.heap s.heap [] := va_S.rf
  have hl : lv_has ls 4 [(0, .ref (ad 0)), (1, .int p1), (2, .int p2), (3, .int p3)] := hl
  have hown : s.vm.findClass RX8 = some m.cls := hown
  unfold q_X8_oneOf at hp
  refine lv_aload_n hx hb dX8_oneOf_0 rfl (lv_at hl 0 rfl) ?_
  refine lv_iconst (v := 0) hx hb dX8_oneOf_1 (by decide) ?_
  refine lv_iload_n hx hb dX8_oneOf_2 rfl (lv_at hl 1 rfl) ?_
  refine lv_iload_n hx hb dX8_oneOf_3 rfl (lv_at hl 2 rfl) ?_
  refine lv_iload_n hx hb dX8_oneOf_4 rfl (lv_at hl 3 rfl) ?_
  refine lv_iconst (v := 0) hx hb dX8_oneOf_5 (by decide) ?_
  refine lv_iload_n hx hb dX8_oneOf_6 rfl (lv_at hl 3 rfl) ?_
  refine lv_iconst (v := 1) hx hb dX8_oneOf_7 (by decide) ?_
  refine lv_sipush (v := 255) hx hb dX8_oneOf_8 (by decide) ?_
  refine fw_ciS (As := [.int p3, .int 1, .int 255]) (rest := [.int 0, .int p3, .int p2, .int p1, .int 0, .ref (ad 0)]) hC (c_X8_is l D k hp) (va_cwS 3 hts (gA_S A_599 A_600 A_601 A_596) rfl rfl rfl (by decide +kernel) ⟨Nat.le_of_ble_eq_true rfl, Nat.le_of_ble_eq_true rfl⟩) rfl hl.1 rfl (Nat.le_of_ble_eq_true rfl) dX8_oneOf_11 ⟨Nat.le_of_ble_eq_true rfl, Nat.le_of_ble_eq_true rfl⟩ P_nil D_nil hS (Jn.pure (w0 := fun _ : Mem => []) hP hD) (fun r1 σ2 H locs hP hD hS hp => ?_)
  have hP : va_P D vwCl (WM k ad g (σ)) H := hP
  have hD : va_D A (WM k ad g (σ)) := hD
  refine fw_ciV (S := (Nat → Nat) × (Nat → Nat) × Mem) (wf := fun u => WM k u.1 u.2.1 u.2.2) (As := [.int 0, .int p1, .int p2, .int p3, .int 0, .int r1]) (rest := []) hC (c_X8_tell l D k ad g hgk hp) (cwV 6 hts (gA_V A_673 A_674 A_675 A_601 A_672) rfl rfl rfl (by decide +kernel) ⟨Nat.le_of_ble_eq_true rfl, Nat.le_of_ble_eq_true rfl⟩) (va_recv hK hP (ci := 12) (q0 := 0) rfl rfl) rfl hl.1 rfl (Nat.le_of_ble_eq_true rfl) dX8_oneOf_14 ⟨Nat.le_of_ble_eq_true rfl, Nat.le_of_ble_eq_true rfl⟩ hP hD hS Jn.same (fun r3 u9 H locs hP hD hS hp => ?_)
  obtain ⟨ad4, g5, σ6⟩ := u9
  have hP : va_P D vwCl (WM k ad4 g5 σ6) H := hP
  have hD : va_D A (WM k ad4 g5 σ6) := hD
  have hp : post r3 ad4 g5 σ6 := hp
  exact hret r3 (ad4, g5, σ6) _ _ _ _ _ _ dX8_oneOf_17 rfl hP hD hS (Nat.le_of_ble_eq_true rfl) (Nat.le_of_ble_eq_true rfl) hp
def q_X8_bound_11 (ad : Nat → Nat) (g : Nat → Nat) (post : Int32 → (Nat → Nat) → (Nat → Nat) → Mem → Prop)  (s0 : Int32) (x1 : Int32) (x2 : Int32) (x3 : Int32) (σ : Mem) : Prop := (q_X8_is (fun (r1001 : Int32) (σ1002 : Mem) => (q_X8_tell ad g (fun (r1003 : Int32) (ad1004 g1005 : Nat → Nat) (σ1006 : Mem) => post r1003 ad1004 g1005 (σ1006)) s0 x1 x2 x3 0 r1001 (σ))) x3 0 7 (σ))
def q_X8_bound (ad : Nat → Nat) (g : Nat → Nat) (post : Int32 → (Nat → Nat) → (Nat → Nat) → Mem → Prop) (p1 : Int32) (p2 : Int32) (p3 : Int32) (p4 : Int32) (σ : Mem) : Prop := ((p4 = 0 → (q_X8_bound_11 ad g post) 1 p1 p2 p3 (σ)) ∧ (¬ (p4 = 0) → (q_X8_bound_11 ad g post) 2 p1 p2 p3 (σ)))
abbrev rm_X8_bound : Room := { frames := 15, cells := 2, slots := 40, locals := 728 }
abbrev wq_X8_bound : List Cond := Cond.code yX8_bound cX8_bound 5 (some .int) :: wALL
set_option maxHeartbeats 4000000 in
set_option maxRecDepth 100000 in
theorem c_X8_bound (l : Launch) (D : va_G) (k ad g : Nat → Nat) (hgk : gk g) {sz : Nat} {σ : Mem} {p1 : Int32} {p2 : Int32} {p3 : Int32} {p4 : Int32} {post : Int32 → (Nat → Nat) → (Nat → Nat) → Mem → Prop} (hp : q_X8_bound ad g post p1 p2 p3 p4 σ) : Met l yX8_bound wq_X8_bound rm_X8_bound (va_Pc [.ref (ad 0), .int p1, .int p2, .int p3, .int p4] (Pw D k (WM k ad g σ) sz)) (va_Qi (fun r (u : (Nat → Nat) × (Nat → Nat) × Mem) => post r u.1 u.2.1 u.2.2) (fun u => Bw D (WM k ad g σ) sz (WM k u.1 u.2.1 u.2.2)) (va_A (WM k ad g σ) sz)) 2 40 (va_A (WM k ad g σ) sz) := by
  have hg := hgk.1
  refine fw_i (wf := fun u : (Nat → Nat) × (Nat → Nat) × Mem => WM k u.1 u.2.1 u.2.2) (post := fun r u => post r u.1 u.2.1 u.2.2) (by decide) rfl (Nat.le_of_ble_eq_true rfl) ?_
  intro p e s m args below meth c A Q ls hC hP hD hl hret
  obtain ⟨⟨hx, hb, hml, hown, hts⟩, hG, hA⟩ := id hC
  have hK := hG.1
  have hS : va_S A s.heap s.heap [] := va_S.rf
  have hl : lv_has ls 5 [(0, .ref (ad 0)), (1, .int p1), (2, .int p2), (3, .int p3), (4, .int p4)] := hl
  have hown : s.vm.findClass RX8 = some m.cls := hown
  unfold q_X8_bound at hp
  have B_11 : ∀ (s0 : Int32) (x1 : Int32) (x2 : Int32) (x3 : Int32) (σ : Mem) (H : Heap) (locs : List Loc) (ls : Array Slot), va_P D vwCl (WM k ad g (σ)) H → va_D A (WM k ad g (σ)) → va_S A s.heap H locs → lv_has ls 5 [(1, .int x1), (2, .int x2), (3, .int x3)] → (q_X8_bound_11 ad g post) s0 x1 x2 x3 σ → W p l e rm_X8_bound s m args below meth c H locs 0 0 Q (F0 m 11 ls [.int s0, .ref (ad 0)]) := by
    intro s0 x1 x2 x3 σ H locs ls hP hD hS hl hp
    unfold q_X8_bound_11 at hp
    refine lv_iload_n hx hb dX8_bound_11 rfl (lv_at hl 0 rfl) ?_
    refine lv_iload_n hx hb dX8_bound_12 rfl (lv_at hl 1 rfl) ?_
    refine lv_iload_n hx hb dX8_bound_13 rfl (lv_at hl 2 rfl) ?_
    refine lv_iconst (v := 0) hx hb dX8_bound_14 (by decide) ?_
    refine lv_iload_n hx hb dX8_bound_15 rfl (lv_at hl 2 rfl) ?_
    refine lv_iconst (v := 0) hx hb dX8_bound_16 (by decide) ?_
    refine lv_bipush (v := 7) hx hb dX8_bound_17 (by decide) ?_
    refine fw_ciS (As := [.int x3, .int 0, .int 7]) (rest := [.int 0, .int x3, .int x2, .int x1, .int s0, .ref (ad 0)]) hC (c_X8_is l D k hp) (va_cwS 3 hts (gA_S A_599 A_600 A_601 A_596) rfl rfl rfl (by decide +kernel) ⟨Nat.le_of_ble_eq_true rfl, Nat.le_of_ble_eq_true rfl⟩) rfl hl.1 rfl (Nat.le_of_ble_eq_true rfl) dX8_bound_19 ⟨Nat.le_of_ble_eq_true rfl, Nat.le_of_ble_eq_true rfl⟩ P_nil D_nil hS (Jn.pure (w0 := fun _ : Mem => []) hP hD) (fun r10001 σ10002 H locs hP hD hS hp => ?_)
    have hP : va_P D vwCl (WM k ad g (σ)) H := hP
    have hD : va_D A (WM k ad g (σ)) := hD
    refine fw_ciV (S := (Nat → Nat) × (Nat → Nat) × Mem) (wf := fun u => WM k u.1 u.2.1 u.2.2) (As := [.int s0, .int x1, .int x2, .int x3, .int 0, .int r10001]) (rest := []) hC (c_X8_tell l D k ad g hgk hp) (cwV 6 hts (gA_V A_673 A_674 A_675 A_601 A_672) rfl rfl rfl (by decide +kernel) ⟨Nat.le_of_ble_eq_true rfl, Nat.le_of_ble_eq_true rfl⟩) (va_recv hK hP (ci := 12) (q0 := 0) rfl rfl) rfl hl.1 rfl (Nat.le_of_ble_eq_true rfl) dX8_bound_22 ⟨Nat.le_of_ble_eq_true rfl, Nat.le_of_ble_eq_true rfl⟩ hP hD hS Jn.same (fun r10003 u9 H locs hP hD hS hp => ?_)
    obtain ⟨ad10004, g10005, σ10006⟩ := u9
    have hP : va_P D vwCl (WM k ad10004 g10005 σ10006) H := hP
    have hD : va_D A (WM k ad10004 g10005 σ10006) := hD
    have hp : post r10003 ad10004 g10005 σ10006 := hp
    exact hret r10003 (ad10004, g10005, σ10006) _ _ _ _ _ _ dX8_bound_25 rfl hP hD hS (Nat.le_of_ble_eq_true rfl) (Nat.le_of_ble_eq_true rfl) hp
  refine lv_aload_n hx hb dX8_bound_0 rfl (lv_at hl 0 rfl) ?_
  refine lv_iload hx hb dX8_bound_1 (lv_at hl 4 rfl) ?_
  refine lv_if_eq (tgt := 10) hx hb dX8_bound_3 (by decide) (fun c1 => ?_) (fun c1 => ?_)
  · have hp := hp.1 c1
    refine lv_iconst (v := 1) hx hb dX8_bound_10 (by decide) ?_
    exact B_11 1 p1 p2 p3 (σ) _ _ _  hP hD hS (lv_sub hl [1, 2, 3] rfl) hp
  · have hp := hp.2 c1
    refine lv_iconst (v := 2) hx hb dX8_bound_6 (by decide) ?_
    refine lv_goto (tgt := 11) hx hb dX8_bound_7 (by decide) ?_
    exact B_11 2 p1 p2 p3 (σ) _ _ _  hP hD hS (lv_sub hl [1, 2, 3] rfl) hp
def q_X8_more (ad : Nat → Nat) (g : Nat → Nat) (post : Int32 → (Nat → Nat) → (Nat → Nat) → Mem → Prop) (p1 : Int32) (p2 : Int32) (p3 : Int32) (p4 : Int32) (σ : Mem) : Prop := (q_X8_is (fun (r1 : Int32) (σ2 : Mem) => (q_X8_tell ad g (fun (r3 : Int32) (ad4 g5 : Nat → Nat) (σ6 : Mem) => post r3 ad4 g5 (σ6)) 3 p1 p2 p3 p4 r1 (σ))) p4 (-7) 7 (σ))
abbrev rm_X8_more : Room := { frames := 15, cells := 2, slots := 40, locals := 728 }
abbrev wq_X8_more : List Cond := Cond.code yX8_more cX8_more 5 (some .int) :: wALL
set_option maxHeartbeats 4000000 in
set_option maxRecDepth 100000 in
theorem c_X8_more (l : Launch) (D : va_G) (k ad g : Nat → Nat) (hgk : gk g) {sz : Nat} {σ : Mem} {p1 : Int32} {p2 : Int32} {p3 : Int32} {p4 : Int32} {post : Int32 → (Nat → Nat) → (Nat → Nat) → Mem → Prop} (hp : q_X8_more ad g post p1 p2 p3 p4 σ) : Met l yX8_more wq_X8_more rm_X8_more (va_Pc [.ref (ad 0), .int p1, .int p2, .int p3, .int p4] (Pw D k (WM k ad g σ) sz)) (va_Qi (fun r (u : (Nat → Nat) × (Nat → Nat) × Mem) => post r u.1 u.2.1 u.2.2) (fun u => Bw D (WM k ad g σ) sz (WM k u.1 u.2.1 u.2.2)) (va_A (WM k ad g σ) sz)) 2 40 (va_A (WM k ad g σ) sz) := by
  have hg := hgk.1
  refine fw_i (wf := fun u : (Nat → Nat) × (Nat → Nat) × Mem => WM k u.1 u.2.1 u.2.2) (post := fun r u => post r u.1 u.2.1 u.2.2) (by decide) rfl (Nat.le_of_ble_eq_true rfl) ?_
  intro p e s m args below meth c A Q ls hC hP hD hl hret
  obtain ⟨⟨hx, hb, hml, hown, hts⟩, hG, hA⟩ := id hC
  have hK := hG.1
  have hS : va_S A s.heap s.heap [] := va_S.rf
  have hl : lv_has ls 5 [(0, .ref (ad 0)), (1, .int p1), (2, .int p2), (3, .int p3), (4, .int p4)] := hl
  have hown : s.vm.findClass RX8 = some m.cls := hown
  unfold q_X8_more at hp
  refine lv_aload_n hx hb dX8_more_0 rfl (lv_at hl 0 rfl) ?_
  refine lv_iconst (v := 3) hx hb dX8_more_1 (by decide) ?_
  refine lv_iload_n hx hb dX8_more_2 rfl (lv_at hl 1 rfl) ?_
  refine lv_iload_n hx hb dX8_more_3 rfl (lv_at hl 2 rfl) ?_
  refine lv_iload_n hx hb dX8_more_4 rfl (lv_at hl 3 rfl) ?_
  refine lv_iload hx hb dX8_more_5 (lv_at hl 4 rfl) ?_
  refine lv_iload hx hb dX8_more_7 (lv_at hl 4 rfl) ?_
  refine lv_bipush (v := (-7)) hx hb dX8_more_9 (by decide) ?_
  refine lv_bipush (v := 7) hx hb dX8_more_11 (by decide) ?_
  refine fw_ciS (As := [.int p4, .int (-7), .int 7]) (rest := [.int p4, .int p3, .int p2, .int p1, .int 3, .ref (ad 0)]) hC (c_X8_is l D k hp) (va_cwS 3 hts (gA_S A_599 A_600 A_601 A_596) rfl rfl rfl (by decide +kernel) ⟨Nat.le_of_ble_eq_true rfl, Nat.le_of_ble_eq_true rfl⟩) rfl hl.1 rfl (Nat.le_of_ble_eq_true rfl) dX8_more_13 ⟨Nat.le_of_ble_eq_true rfl, Nat.le_of_ble_eq_true rfl⟩ P_nil D_nil hS (Jn.pure (w0 := fun _ : Mem => []) hP hD) (fun r1 σ2 H locs hP hD hS hp => ?_)
  have hP : va_P D vwCl (WM k ad g (σ)) H := hP
  have hD : va_D A (WM k ad g (σ)) := hD
  refine fw_ciV (S := (Nat → Nat) × (Nat → Nat) × Mem) (wf := fun u => WM k u.1 u.2.1 u.2.2) (As := [.int 3, .int p1, .int p2, .int p3, .int p4, .int r1]) (rest := []) hC (c_X8_tell l D k ad g hgk hp) (cwV 6 hts (gA_V A_673 A_674 A_675 A_601 A_672) rfl rfl rfl (by decide +kernel) ⟨Nat.le_of_ble_eq_true rfl, Nat.le_of_ble_eq_true rfl⟩) (va_recv hK hP (ci := 12) (q0 := 0) rfl rfl) rfl hl.1 rfl (Nat.le_of_ble_eq_true rfl) dX8_more_16 ⟨Nat.le_of_ble_eq_true rfl, Nat.le_of_ble_eq_true rfl⟩ hP hD hS Jn.same (fun r3 u9 H locs hP hD hS hp => ?_)
  obtain ⟨ad4, g5, σ6⟩ := u9
  have hP : va_P D vwCl (WM k ad4 g5 σ6) H := hP
  have hD : va_D A (WM k ad4 g5 σ6) := hD
  have hp : post r3 ad4 g5 σ6 := hp
  exact hret r3 (ad4, g5, σ6) _ _ _ _ _ _ dX8_more_19 rfl hP hD hS (Nat.le_of_ble_eq_true rfl) (Nat.le_of_ble_eq_true rfl) hp
def q_X8_unlike (ad : Nat → Nat) (g : Nat → Nat) (post : Int32 → (Nat → Nat) → (Nat → Nat) → Mem → Prop) (p1 : Int32) (p2 : Int32) (p3 : Int32) (σ : Mem) : Prop := (q_X8_tell ad g (fun (r1 : Int32) (ad2 g3 : Nat → Nat) (σ4 : Mem) => post r1 ad2 g3 (σ4)) 4 p1 p2 p3 0 1 (σ))
abbrev rm_X8_unlike : Room := { frames := 15, cells := 2, slots := 40, locals := 728 }
abbrev wq_X8_unlike : List Cond := Cond.code yX8_unlike cX8_unlike 4 (some .int) :: wALL
set_option maxHeartbeats 4000000 in
set_option maxRecDepth 100000 in
theorem c_X8_unlike (l : Launch) (D : va_G) (k ad g : Nat → Nat) (hgk : gk g) {sz : Nat} {σ : Mem} {p1 : Int32} {p2 : Int32} {p3 : Int32} {post : Int32 → (Nat → Nat) → (Nat → Nat) → Mem → Prop} (hp : q_X8_unlike ad g post p1 p2 p3 σ) : Met l yX8_unlike wq_X8_unlike rm_X8_unlike (va_Pc [.ref (ad 0), .int p1, .int p2, .int p3] (Pw D k (WM k ad g σ) sz)) (va_Qi (fun r (u : (Nat → Nat) × (Nat → Nat) × Mem) => post r u.1 u.2.1 u.2.2) (fun u => Bw D (WM k ad g σ) sz (WM k u.1 u.2.1 u.2.2)) (va_A (WM k ad g σ) sz)) 2 40 (va_A (WM k ad g σ) sz) := by
  have hg := hgk.1
  refine fw_i (wf := fun u : (Nat → Nat) × (Nat → Nat) × Mem => WM k u.1 u.2.1 u.2.2) (post := fun r u => post r u.1 u.2.1 u.2.2) (by decide) rfl (Nat.le_of_ble_eq_true rfl) ?_
  intro p e s m args below meth c A Q ls hC hP hD hl hret
  obtain ⟨⟨hx, hb, hml, hown, hts⟩, hG, hA⟩ := id hC
  have hK := hG.1
  have hS : va_S A s.heap s.heap [] := va_S.rf
  have hl : lv_has ls 4 [(0, .ref (ad 0)), (1, .int p1), (2, .int p2), (3, .int p3)] := hl
  have hown : s.vm.findClass RX8 = some m.cls := hown
  unfold q_X8_unlike at hp
  refine lv_aload_n hx hb dX8_unlike_0 rfl (lv_at hl 0 rfl) ?_
  refine lv_iconst (v := 4) hx hb dX8_unlike_1 (by decide) ?_
  refine lv_iload_n hx hb dX8_unlike_2 rfl (lv_at hl 1 rfl) ?_
  refine lv_iload_n hx hb dX8_unlike_3 rfl (lv_at hl 2 rfl) ?_
  refine lv_iload_n hx hb dX8_unlike_4 rfl (lv_at hl 3 rfl) ?_
  refine lv_iconst (v := 0) hx hb dX8_unlike_5 (by decide) ?_
  refine lv_iconst (v := 1) hx hb dX8_unlike_6 (by decide) ?_
  refine fw_ciV (S := (Nat → Nat) × (Nat → Nat) × Mem) (wf := fun u => WM k u.1 u.2.1 u.2.2) (As := [.int 4, .int p1, .int p2, .int p3, .int 0, .int 1]) (rest := []) hC (c_X8_tell l D k ad g hgk hp) (cwV 6 hts (gA_V A_673 A_674 A_675 A_601 A_672) rfl rfl rfl (by decide +kernel) ⟨Nat.le_of_ble_eq_true rfl, Nat.le_of_ble_eq_true rfl⟩) (va_recv hK hP (ci := 12) (q0 := 0) rfl rfl) rfl hl.1 rfl (Nat.le_of_ble_eq_true rfl) dX8_unlike_7 ⟨Nat.le_of_ble_eq_true rfl, Nat.le_of_ble_eq_true rfl⟩ hP hD hS Jn.same (fun r1 u9 H locs hP hD hS hp => ?_)
  obtain ⟨ad2, g3, σ4⟩ := u9
  have hP : va_P D vwCl (WM k ad2 g3 σ4) H := hP
  have hD : va_D A (WM k ad2 g3 σ4) := hD
  have hp : post r1 ad2 g3 σ4 := hp
  exact hret r1 (ad2, g3, σ4) _ _ _ _ _ _ dX8_unlike_10 rfl hP hD hS (Nat.le_of_ble_eq_true rfl) (Nat.le_of_ble_eq_true rfl) hp
def q_X8_preset_33 (ad : Nat → Nat) (g : Nat → Nat) (post : Int32 → (Nat → Nat) → (Nat → Nat) → Mem → Prop)  (s0 : Int32) (s1 : Int32) (s2 : Int32) (s3 : Int32) (s4 : Int32) (s5 : Int32) (σ : Mem) : Prop := (q_X8_tell ad g (fun (r2001 : Int32) (ad2002 g2003 : Nat → Nat) (σ2004 : Mem) => post r2001 ad2002 g2003 (σ2004)) s5 s4 s3 s2 s1 s0 (σ))
def q_X8_preset_32 (ad : Nat → Nat) (g : Nat → Nat) (post : Int32 → (Nat → Nat) → (Nat → Nat) → Mem → Prop)  (s0 : Int32) (s1 : Int32) (s2 : Int32) (s3 : Int32) (s4 : Int32) (σ : Mem) : Prop := (q_X8_preset_33 ad g post) 0 s0 s1 s2 s3 s4 (σ)
def q_X8_preset (ad : Nat → Nat) (g : Nat → Nat) (post : Int32 → (Nat → Nat) → (Nat → Nat) → Mem → Prop) (p1 : Int32) (p2 : Int32) (p3 : Int32) (p4 : Int32) (σ : Mem) : Prop := (q_X8_is (fun (r1 : Int32) (σ2 : Mem) => ((r1 = 0 → (q_X8_preset_32 ad g post) p4 p3 p2 p1 5 (σ)) ∧ (¬ (r1 = 0) → (q_X8_is (fun (r4 : Int32) (σ5 : Mem) => ((r4 = 0 → (q_X8_preset_32 ad g post) p4 p3 p2 p1 5 (σ)) ∧ (¬ (r4 = 0) → (q_X8_preset_33 ad g post) 1 p4 p3 p2 p1 5 (σ)))) p4 0 9 (σ))))) p3 0 7 (σ))
abbrev rm_X8_preset : Room := { frames := 15, cells := 2, slots := 40, locals := 728 }
abbrev wq_X8_preset : List Cond := Cond.code yX8_preset cX8_preset 5 (some .int) :: wALL
set_option maxHeartbeats 4000000 in
set_option maxRecDepth 100000 in
theorem c_X8_preset (l : Launch) (D : va_G) (k ad g : Nat → Nat) (hgk : gk g) {sz : Nat} {σ : Mem} {p1 : Int32} {p2 : Int32} {p3 : Int32} {p4 : Int32} {post : Int32 → (Nat → Nat) → (Nat → Nat) → Mem → Prop} (hp : q_X8_preset ad g post p1 p2 p3 p4 σ) : Met l yX8_preset wq_X8_preset rm_X8_preset (va_Pc [.ref (ad 0), .int p1, .int p2, .int p3, .int p4] (Pw D k (WM k ad g σ) sz)) (va_Qi (fun r (u : (Nat → Nat) × (Nat → Nat) × Mem) => post r u.1 u.2.1 u.2.2) (fun u => Bw D (WM k ad g σ) sz (WM k u.1 u.2.1 u.2.2)) (va_A (WM k ad g σ) sz)) 2 40 (va_A (WM k ad g σ) sz) := by
  have hg := hgk.1
  refine fw_i (wf := fun u : (Nat → Nat) × (Nat → Nat) × Mem => WM k u.1 u.2.1 u.2.2) (post := fun r u => post r u.1 u.2.1 u.2.2) (by decide) rfl (Nat.le_of_ble_eq_true rfl) ?_
  intro p e s m args below meth c A Q ls hC hP hD hl hret
  obtain ⟨⟨hx, hb, hml, hown, hts⟩, hG, hA⟩ := id hC
  have hK := hG.1
  have hS : va_S A s.heap s.heap [] := va_S.rf
  have hl : lv_has ls 5 [(0, .ref (ad 0)), (1, .int p1), (2, .int p2), (3, .int p3), (4, .int p4)] := hl
  have hown : s.vm.findClass RX8 = some m.cls := hown
  unfold q_X8_preset at hp
  have B_33 : ∀ (s0 : Int32) (s1 : Int32) (s2 : Int32) (s3 : Int32) (s4 : Int32) (s5 : Int32) (σ : Mem) (H : Heap) (locs : List Loc) (ls : Array Slot), va_P D vwCl (WM k ad g (σ)) H → va_D A (WM k ad g (σ)) → va_S A s.heap H locs → lv_has ls 5 [] → (q_X8_preset_33 ad g post) s0 s1 s2 s3 s4 s5 σ → W p l e rm_X8_preset s m args below meth c H locs 0 0 Q (F0 m 33 ls [.int s0, .int s1, .int s2, .int s3, .int s4, .int s5, .ref (ad 0)]) := by
    intro s0 s1 s2 s3 s4 s5 σ H locs ls hP hD hS hl hp
    unfold q_X8_preset_33 at hp
    refine fw_ciV (S := (Nat → Nat) × (Nat → Nat) × Mem) (wf := fun u => WM k u.1 u.2.1 u.2.2) (As := [.int s5, .int s4, .int s3, .int s2, .int s1, .int s0]) (rest := []) hC (c_X8_tell l D k ad g hgk hp) (cwV 6 hts (gA_V A_673 A_674 A_675 A_601 A_672) rfl rfl rfl (by decide +kernel) ⟨Nat.le_of_ble_eq_true rfl, Nat.le_of_ble_eq_true rfl⟩) (va_recv hK hP (ci := 12) (q0 := 0) rfl rfl) rfl hl.1 rfl (Nat.le_of_ble_eq_true rfl) dX8_preset_33 ⟨Nat.le_of_ble_eq_true rfl, Nat.le_of_ble_eq_true rfl⟩ hP hD hS Jn.same (fun r20001 u9 H locs hP hD hS hp => ?_)
    obtain ⟨ad20002, g20003, σ20004⟩ := u9
    have hP : va_P D vwCl (WM k ad20002 g20003 σ20004) H := hP
    have hD : va_D A (WM k ad20002 g20003 σ20004) := hD
    have hp : post r20001 ad20002 g20003 σ20004 := hp
    exact hret r20001 (ad20002, g20003, σ20004) _ _ _ _ _ _ dX8_preset_36 rfl hP hD hS (Nat.le_of_ble_eq_true rfl) (Nat.le_of_ble_eq_true rfl) hp
  have B_32 : ∀ (s0 : Int32) (s1 : Int32) (s2 : Int32) (s3 : Int32) (s4 : Int32) (σ : Mem) (H : Heap) (locs : List Loc) (ls : Array Slot), va_P D vwCl (WM k ad g (σ)) H → va_D A (WM k ad g (σ)) → va_S A s.heap H locs → lv_has ls 5 [] → (q_X8_preset_32 ad g post) s0 s1 s2 s3 s4 σ → W p l e rm_X8_preset s m args below meth c H locs 0 0 Q (F0 m 32 ls [.int s0, .int s1, .int s2, .int s3, .int s4, .ref (ad 0)]) := by
    intro s0 s1 s2 s3 s4 σ H locs ls hP hD hS hl hp
    unfold q_X8_preset_32 at hp
    refine lv_iconst (v := 0) hx hb dX8_preset_32 (by decide) ?_
    exact B_33 0 s0 s1 s2 s3 s4 (σ) _ _ _  hP hD hS (lv_sub hl [] rfl) hp
  refine lv_aload_n hx hb dX8_preset_0 rfl (lv_at hl 0 rfl) ?_
  refine lv_iconst (v := 5) hx hb dX8_preset_1 (by decide) ?_
  refine lv_iload_n hx hb dX8_preset_2 rfl (lv_at hl 1 rfl) ?_
  refine lv_iload_n hx hb dX8_preset_3 rfl (lv_at hl 2 rfl) ?_
  refine lv_iload_n hx hb dX8_preset_4 rfl (lv_at hl 3 rfl) ?_
  refine lv_iload hx hb dX8_preset_5 (lv_at hl 4 rfl) ?_
  refine lv_iload_n hx hb dX8_preset_7 rfl (lv_at hl 3 rfl) ?_
  refine lv_iconst (v := 0) hx hb dX8_preset_8 (by decide) ?_
  refine lv_bipush (v := 7) hx hb dX8_preset_9 (by decide) ?_
  refine fw_ciS (As := [.int p3, .int 0, .int 7]) (rest := [.int p4, .int p3, .int p2, .int p1, .int 5, .ref (ad 0)]) hC (c_X8_is l D k hp) (va_cwS 3 hts (gA_S A_599 A_600 A_601 A_596) rfl rfl rfl (by decide +kernel) ⟨Nat.le_of_ble_eq_true rfl, Nat.le_of_ble_eq_true rfl⟩) rfl hl.1 rfl (Nat.le_of_ble_eq_true rfl) dX8_preset_11 ⟨Nat.le_of_ble_eq_true rfl, Nat.le_of_ble_eq_true rfl⟩ P_nil D_nil hS (Jn.pure (w0 := fun _ : Mem => []) hP hD) (fun r1 σ2 H locs hP hD hS hp => ?_)
  have hP : va_P D vwCl (WM k ad g (σ)) H := hP
  have hD : va_D A (WM k ad g (σ)) := hD
  refine lv_if_eq (tgt := 32) hx hb dX8_preset_14 (by decide) (fun c3 => ?_) (fun c3 => ?_)
  · have hp := hp.1 c3
    exact B_32 p4 p3 p2 p1 5 (σ) _ _ _  hP hD hS (lv_sub hl [] rfl) hp
  · have hp := hp.2 c3
    refine lv_iload hx hb dX8_preset_17 (lv_at hl 4 rfl) ?_
    refine lv_iconst (v := 0) hx hb dX8_preset_19 (by decide) ?_
    refine lv_bipush (v := 9) hx hb dX8_preset_20 (by decide) ?_
    refine fw_ciS (As := [.int p4, .int 0, .int 9]) (rest := [.int p4, .int p3, .int p2, .int p1, .int 5, .ref (ad 0)]) hC (c_X8_is l D k hp) (va_cwS 3 hts (gA_S A_599 A_600 A_601 A_596) rfl rfl rfl (by decide +kernel) ⟨Nat.le_of_ble_eq_true rfl, Nat.le_of_ble_eq_true rfl⟩) rfl hl.1 rfl (Nat.le_of_ble_eq_true rfl) dX8_preset_22 ⟨Nat.le_of_ble_eq_true rfl, Nat.le_of_ble_eq_true rfl⟩ P_nil D_nil hS (Jn.pure (w0 := fun _ : Mem => []) hP hD) (fun r4 σ5 H locs hP hD hS hp => ?_)
    have hP : va_P D vwCl (WM k ad g (σ)) H := hP
    have hD : va_D A (WM k ad g (σ)) := hD
    refine lv_if_eq (tgt := 32) hx hb dX8_preset_25 (by decide) (fun c6 => ?_) (fun c6 => ?_)
    · have hp := hp.1 c6
      exact B_32 p4 p3 p2 p1 5 (σ) _ _ _  hP hD hS (lv_sub hl [] rfl) hp
    · have hp := hp.2 c6
      refine lv_iconst (v := 1) hx hb dX8_preset_28 (by decide) ?_
      refine lv_goto (tgt := 33) hx hb dX8_preset_29 (by decide) ?_
      exact B_33 1 p4 p3 p2 p1 5 (σ) _ _ _  hP hD hS (lv_sub hl [] rfl) hp
def q_X8_absorb_47 (ad : Nat → Nat) (g : Nat → Nat) (post : Int32 → (Nat → Nat) → (Nat → Nat) → Mem → Prop)  (σ : Mem) : Prop := (q_X8_refuse (g 0) (g 2) (fun (r2001 : Int32) (σ2002 : Mem) => post r2001 ad g (σ2002)) 2 (σ))
def q_X8_absorb_20 (ad : Nat → Nat) (g : Nat → Nat) (post : Int32 → (Nat → Nat) → (Nat → Nat) → Mem → Prop)  (σ : Mem) : Prop := (q_X8_refuse (g 0) (g 2) (fun (r1001 : Int32) (σ1002 : Mem) => post r1001 ad g (σ1002)) 1 (σ))
def q_X8_absorb (ad : Nat → Nat) (g : Nat → Nat) (post : Int32 → (Nat → Nat) → (Nat → Nat) → Mem → Prop) (p1 : Int32) (p2 : Int32) (σ : Mem) : Prop := (∀ σ1 : Mem, σ1 = mst (σ) 0 0 0 → (q_X8_isMachine (fun (r2 : Int32) (σ3 : Mem) => ((r2 = 0 → (q_X8_absorb_20 ad g post) (σ1)) ∧ (¬ (r2 = 0) → (q_X8_isField (g 0) (g 2) (fun (r5 : Int32) (σ6 : Mem) => ((r5 ≠ 0 → (q_X8_drifts (g 0) (g 2) (fun (r8 : Int32) (σ9 : Mem) => ((r8 = 0 → (q_X8_absorb_47 ad g post) (σ9)) ∧ (¬ (r8 = 0) → (((nI (g 0)) ≠ 30 → (vp_in p2 5 ∧ (vp_in ((p1 * 5) + p2) 30 ∧ (q_X8_tell ad g (fun (r14 : Int32) (ad15 g16 : Nat → Nat) (σ17 : Mem) => post r14 ad15 g16 (σ17)) 0 ((σ9) 1 p2.toNatClampNeg) p2 ((1 : Int32) <<< (((σ9) 6 (((p1 * 5) + p2).toNatClampNeg)) &&& 31)) 0 1 (σ9))))) ∧ ((nI (g 0)) = 30 → (q_X8_absorb_47 ad g post) (σ9)))))) p1 p2 (σ6))) ∧ (r5 = 0 → (q_X8_absorb_20 ad g post) (σ6)))) p2 (σ1))))) p1 (σ1)))
abbrev rm_X8_absorb : Room := { frames := 15, cells := 2, slots := 40, locals := 728 }
abbrev wq_X8_absorb : List Cond := Cond.code yX8_absorb cX8_absorb 3 (some .int) :: wALL
set_option maxHeartbeats 4000000 in
set_option maxRecDepth 100000 in
theorem c_X8_absorb (l : Launch) (D : va_G) (k ad g : Nat → Nat) (hgk : gk g) {sz : Nat} {σ : Mem} {p1 : Int32} {p2 : Int32} {post : Int32 → (Nat → Nat) → (Nat → Nat) → Mem → Prop} (hp : q_X8_absorb ad g post p1 p2 σ) : Met l yX8_absorb wq_X8_absorb rm_X8_absorb (va_Pc [.ref (ad 0), .int p1, .int p2] (Pw D k (WM k ad g σ) sz)) (va_Qi (fun r (u : (Nat → Nat) × (Nat → Nat) × Mem) => post r u.1 u.2.1 u.2.2) (fun u => Bw D (WM k ad g σ) sz (WM k u.1 u.2.1 u.2.2)) (va_A (WM k ad g σ) sz)) 2 40 (va_A (WM k ad g σ) sz) := by
  have hg := hgk.1
  refine fw_i (wf := fun u : (Nat → Nat) × (Nat → Nat) × Mem => WM k u.1 u.2.1 u.2.2) (post := fun r u => post r u.1 u.2.1 u.2.2) (by decide) rfl (Nat.le_of_ble_eq_true rfl) ?_
  intro p e s m args below meth c A Q ls hC hP hD hl hret
  obtain ⟨⟨hx, hb, hml, hown, hts⟩, hG, hA⟩ := id hC
  have hK := hG.1
  have hS : va_S A s.heap s.heap [] := va_S.rf
  have hin_X8 : ∀ w ∈ u_ws RX8 TX8 15, w ∈ wq_X8_absorb := fun w h => List.mem_cons_of_mem _ (iU_X8 w h)
  have hf_41 := hts _ (List.mem_cons_of_mem _ A_595)
  have hf_19 := hts _ (List.mem_cons_of_mem _ A_584)
  have hf_9 := hts _ (List.mem_cons_of_mem _ A_579)
  have hf_29 := hts _ (List.mem_cons_of_mem _ A_587)
  have hl : lv_has ls 3 [(0, .ref (ad 0)), (1, .int p1), (2, .int p2)] := hl
  have hown : s.vm.findClass RX8 = some m.cls := hown
  unfold q_X8_absorb at hp
  have B_47 : ∀  (σ : Mem) (H : Heap) (locs : List Loc) (ls : Array Slot), va_P D vwCl (WM k ad g (σ)) H → va_D A (WM k ad g (σ)) → va_S A s.heap H locs → lv_has ls 3 [(0, .ref (ad 0))] → (q_X8_absorb_47 ad g post)  σ → W p l e rm_X8_absorb s m args below meth c H locs 0 0 Q (F0 m 47 ls []) := by
    intro  σ H locs ls hP hD hS hl hp
    unfold q_X8_absorb_47 at hp
    refine lv_aload_n hx hb dX8_absorb_47 rfl (lv_at hl 0 rfl) ?_
    refine lv_iconst (v := 2) hx hb dX8_absorb_48 (by decide) ?_
    refine fw_ciV (As := [.int 2]) (rest := []) hC (c_X8_refuse l D k ad g hg hp) (cwV 1 hts (gA_V A_629 A_630 A_631 A_601 A_594) rfl rfl rfl (by decide +kernel) ⟨Nat.le_of_ble_eq_true rfl, Nat.le_of_ble_eq_true rfl⟩) (va_recv hK hP (ci := 12) (q0 := 0) rfl rfl) rfl hl.1 rfl (Nat.le_of_ble_eq_true rfl) dX8_absorb_49 ⟨Nat.le_of_ble_eq_true rfl, Nat.le_of_ble_eq_true rfl⟩ hP hD hS Jn.same (fun r20001 σ20002 H locs hP hD hS hp => ?_)
    have hP : va_P D vwCl (WM k ad g (σ20002)) H := hP
    have hD : va_D A (WM k ad g (σ20002)) := hD
    exact hret r20001 (ad, g, σ20002) _ _ _ _ _ _ dX8_absorb_52 rfl hP hD hS (Nat.le_of_ble_eq_true rfl) (Nat.le_of_ble_eq_true rfl) hp
  have B_20 : ∀  (σ : Mem) (H : Heap) (locs : List Loc) (ls : Array Slot), va_P D vwCl (WM k ad g (σ)) H → va_D A (WM k ad g (σ)) → va_S A s.heap H locs → lv_has ls 3 [(0, .ref (ad 0))] → (q_X8_absorb_20 ad g post)  σ → W p l e rm_X8_absorb s m args below meth c H locs 0 0 Q (F0 m 20 ls []) := by
    intro  σ H locs ls hP hD hS hl hp
    unfold q_X8_absorb_20 at hp
    refine lv_aload_n hx hb dX8_absorb_20 rfl (lv_at hl 0 rfl) ?_
    refine lv_iconst (v := 1) hx hb dX8_absorb_21 (by decide) ?_
    refine fw_ciV (As := [.int 1]) (rest := []) hC (c_X8_refuse l D k ad g hg hp) (cwV 1 hts (gA_V A_629 A_630 A_631 A_601 A_594) rfl rfl rfl (by decide +kernel) ⟨Nat.le_of_ble_eq_true rfl, Nat.le_of_ble_eq_true rfl⟩) (va_recv hK hP (ci := 12) (q0 := 0) rfl rfl) rfl hl.1 rfl (Nat.le_of_ble_eq_true rfl) dX8_absorb_22 ⟨Nat.le_of_ble_eq_true rfl, Nat.le_of_ble_eq_true rfl⟩ hP hD hS Jn.same (fun r10001 σ10002 H locs hP hD hS hp => ?_)
    have hP : va_P D vwCl (WM k ad g (σ10002)) H := hP
    have hD : va_D A (WM k ad g (σ10002)) := hD
    exact hret r10001 (ad, g, σ10002) _ _ _ _ _ _ dX8_absorb_25 rfl hP hD hS (Nat.le_of_ble_eq_true rfl) (Nat.le_of_ble_eq_true rfl) hp
  refine lv_aload_n hx hb dX8_absorb_0 rfl (lv_at hl 0 rfl) ?_
  refine lv_iconst (v := 0) hx hb dX8_absorb_1 (by decide) ?_
  refine va_put (D := D) (ci := 12) (v := .int 0) (ty := .int) (C := RX8) (T := TX8) (N := 15) hx hb hts hin_X8 tyX8 tyX8_ok nmX8 hown hK hP hD hS 0 rfl rfl 0 (by decide) hf_41 (fun _ h9 => h9) rfl (by decide +kernel) rfl rfl (Nat.le_of_ble_eq_true rfl) dX8_absorb_2 (fun H locs hP hD hS => ?_)
  obtain ⟨σ1, eσ1⟩ : ∃ z : Mem, z = mst (σ) 0 0 0 := ⟨_, rfl⟩
  have hp := hp σ1 eσ1
  have hP : va_P D vwCl (WM k ad g (σ1)) H := by rw [eσ1, WM_s (by decide)]; exact hP
  have hD : va_D A (WM k ad g (σ1)) := by rw [eσ1, WM_s (by decide)]; exact hD
  refine lv_iload_n hx hb dX8_absorb_5 rfl (lv_at hl 1 rfl) ?_
  refine fw_ciS (As := [.int p1]) (rest := []) hC (c_X8_isMachine l D k hp) (va_cwS 1 hts (gA_S A_793 A_794 A_601 A_608) rfl rfl rfl (by decide +kernel) ⟨Nat.le_of_ble_eq_true rfl, Nat.le_of_ble_eq_true rfl⟩) rfl hl.1 rfl (Nat.le_of_ble_eq_true rfl) dX8_absorb_6 ⟨Nat.le_of_ble_eq_true rfl, Nat.le_of_ble_eq_true rfl⟩ P_nil D_nil hS (Jn.pure (w0 := fun _ : Mem => []) hP hD) (fun r2 σ3 H locs hP hD hS hp => ?_)
  have hP : va_P D vwCl (WM k ad g (σ1)) H := hP
  have hD : va_D A (WM k ad g (σ1)) := hD
  refine lv_if_eq (tgt := 20) hx hb dX8_absorb_9 (by decide) (fun c4 => ?_) (fun c4 => ?_)
  · have hp := hp.1 c4
    exact B_20  (σ1) _ _ _  hP hD hS (lv_sub hl [0] rfl) hp
  · have hp := hp.2 c4
    refine lv_aload_n hx hb dX8_absorb_12 rfl (lv_at hl 0 rfl) ?_
    refine lv_iload_n hx hb dX8_absorb_13 rfl (lv_at hl 2 rfl) ?_
    refine fw_ciV (As := [.int p2]) (rest := []) hC (c_X8_isField l D k ad g hg hp) (cwV 1 hts (gA_V A_665 A_666 A_667 A_601 A_597) rfl rfl rfl (by decide +kernel) ⟨Nat.le_of_ble_eq_true rfl, Nat.le_of_ble_eq_true rfl⟩) (va_recv hK hP (ci := 12) (q0 := 0) rfl rfl) rfl hl.1 rfl (Nat.le_of_ble_eq_true rfl) dX8_absorb_14 ⟨Nat.le_of_ble_eq_true rfl, Nat.le_of_ble_eq_true rfl⟩ hP hD hS Jn.same (fun r5 σ6 H locs hP hD hS hp => ?_)
    have hP : va_P D vwCl (WM k ad g (σ6)) H := hP
    have hD : va_D A (WM k ad g (σ6)) := hD
    refine lv_if_ne (tgt := 26) hx hb dX8_absorb_17 (by decide) (fun c7 => ?_) (fun c7 => ?_)
    · have hp := hp.1 c7
      refine lv_aload_n hx hb dX8_absorb_26 rfl (lv_at hl 0 rfl) ?_
      refine lv_iload_n hx hb dX8_absorb_27 rfl (lv_at hl 1 rfl) ?_
      refine lv_iload_n hx hb dX8_absorb_28 rfl (lv_at hl 2 rfl) ?_
      refine fw_ciV (As := [.int p1, .int p2]) (rest := []) hC (c_X8_drifts l D k ad g hg hp) (cwV 2 hts (gA_V A_784 A_785 A_786 A_601 A_782) rfl rfl rfl (by decide +kernel) ⟨Nat.le_of_ble_eq_true rfl, Nat.le_of_ble_eq_true rfl⟩) (va_recv hK hP (ci := 12) (q0 := 0) rfl rfl) rfl hl.1 rfl (Nat.le_of_ble_eq_true rfl) dX8_absorb_29 ⟨Nat.le_of_ble_eq_true rfl, Nat.le_of_ble_eq_true rfl⟩ hP hD hS Jn.same (fun r8 σ9 H locs hP hD hS hp => ?_)
      have hP : va_P D vwCl (WM k ad g (σ9)) H := hP
      have hD : va_D A (WM k ad g (σ9)) := hD
      refine lv_if_eq (tgt := 47) hx hb dX8_absorb_32 (by decide) (fun c10 => ?_) (fun c10 => ?_)
      · have hp := hp.1 c10
        exact B_47  (σ9) _ _ _  hP hD hS (lv_sub hl [0] rfl) hp
      · have hp := hp.2 c10
        refine lv_aload_n hx hb dX8_absorb_35 rfl (lv_at hl 0 rfl) ?_
        refine va_get (D := D) (ci := 12) (C := RX8) (T := TX8) (N := 15) hx hb hts hin_X8 hown hK hP 0 rfl rfl 4 (by decide) hf_19 (fun _ h9 => h9) rfl dX8_absorb_36 ?_
        refine wm_size_line (rest := []) hC (gA_V (a := Cond.code yX8_absorb cX8_absorb 3 (some .int)) A_605 A_606 A_607 A_583 A_602) hl.1 rfl (Nat.le_of_ble_eq_true rfl) (Nat.le_of_ble_eq_true rfl) (Nat.le_of_ble_eq_true rfl) dX8_absorb_39 ⟨Nat.le_of_ble_eq_true rfl, Nat.le_of_ble_eq_true rfl⟩ hP hD hS (fun H locs hP hD hS => ?_)
        refine lv_bipush (v := 30) hx hb dX8_absorb_42 (by decide) ?_
        refine lv_icmp_ne (tgt := 53) hx hb dX8_absorb_44 (by decide) (fun c11 => ?_) (fun c11 => ?_)
        · have hp := hp.1 c11
          refine lv_aload_n hx hb dX8_absorb_53 rfl (lv_at hl 0 rfl) ?_
          refine lv_iconst (v := 0) hx hb dX8_absorb_54 (by decide) ?_
          refine lv_aload_n hx hb dX8_absorb_55 rfl (lv_at hl 0 rfl) ?_
          refine va_get (D := D) (ci := 12) (C := RX8) (T := TX8) (N := 15) hx hb hts hin_X8 hown hK hP 0 rfl rfl 1 (by decide) hf_9 (fun _ h9 => h9) rfl dX8_absorb_56 ?_
          refine lv_iload_n hx hb dX8_absorb_59 rfl (lv_at hl 2 rfl) ?_
          obtain ⟨h12, hp⟩ := hp
          refine va_iald hx hb hK hP 1 0 rfl rfl h12 dX8_absorb_60 ?_
          refine lv_iload_n hx hb dX8_absorb_61 rfl (lv_at hl 2 rfl) ?_
          refine lv_iconst (v := 1) hx hb dX8_absorb_62 (by decide) ?_
          refine lv_aload_n hx hb dX8_absorb_63 rfl (lv_at hl 0 rfl) ?_
          refine va_get (D := D) (ci := 12) (C := RX8) (T := TX8) (N := 15) hx hb hts hin_X8 hown hK hP 0 rfl rfl 7 (by decide) hf_29 (fun _ h9 => h9) rfl dX8_absorb_64 ?_
          refine lv_iload_n hx hb dX8_absorb_67 rfl (lv_at hl 1 rfl) ?_
          refine lv_iconst (v := 5) hx hb dX8_absorb_68 (by decide) ?_
          refine lv_imul hx hb dX8_absorb_69 ?_
          refine lv_iload_n hx hb dX8_absorb_70 rfl (lv_at hl 2 rfl) ?_
          refine lv_iadd hx hb dX8_absorb_71 ?_
          obtain ⟨h13, hp⟩ := hp
          refine va_iald hx hb hK hP 6 0 rfl rfl h13 dX8_absorb_72 ?_
          refine lv_ishl hx hb dX8_absorb_73 ?_
          refine lv_iconst (v := 0) hx hb dX8_absorb_74 (by decide) ?_
          refine lv_iconst (v := 1) hx hb dX8_absorb_75 (by decide) ?_
          refine fw_ciV (S := (Nat → Nat) × (Nat → Nat) × Mem) (wf := fun u => WM k u.1 u.2.1 u.2.2) (As := [.int 0, .int ((σ9) 1 p2.toNatClampNeg), .int p2, .int ((1 : Int32) <<< (((σ9) 6 (((p1 * 5) + p2).toNatClampNeg)) &&& 31)), .int 0, .int 1]) (rest := []) hC (c_X8_tell l D k ad g hgk hp) (cwV 6 hts (gA_V A_673 A_674 A_675 A_601 A_672) rfl rfl rfl (by decide +kernel) ⟨Nat.le_of_ble_eq_true rfl, Nat.le_of_ble_eq_true rfl⟩) (va_recv hK hP (ci := 12) (q0 := 0) rfl rfl) rfl hl.1 rfl (Nat.le_of_ble_eq_true rfl) dX8_absorb_76 ⟨Nat.le_of_ble_eq_true rfl, Nat.le_of_ble_eq_true rfl⟩ hP hD hS Jn.same (fun r14 u9 H locs hP hD hS hp => ?_)
          obtain ⟨ad15, g16, σ17⟩ := u9
          have hP : va_P D vwCl (WM k ad15 g16 σ17) H := hP
          have hD : va_D A (WM k ad15 g16 σ17) := hD
          have hp : post r14 ad15 g16 σ17 := hp
          exact hret r14 (ad15, g16, σ17) _ _ _ _ _ _ dX8_absorb_79 rfl hP hD hS (Nat.le_of_ble_eq_true rfl) (Nat.le_of_ble_eq_true rfl) hp
        · have hp := hp.2 c11
          exact B_47  (σ9) _ _ _  hP hD hS (lv_sub hl [0] rfl) hp
    · have hp := hp.2 c7
      exact B_20  (σ6) _ _ _  hP hD hS (lv_sub hl [0] rfl) hp
def q_X8_commit_82 (ad : Nat → Nat) (g : Nat → Nat) (post : Int32 → (Nat → Nat) → (Nat → Nat) → Mem → Prop)  (wi : Nat) (wr : (Nat → Int32)) (σ : Mem) : Prop := (g 2 < 12 ∧ (∀ (ad1 g1 : Nat → Nat) (τ1 : Mem), ad1 0 = ad 0 → gk g1 → g1 2 = g 2 + 1 → g1 0 = g 0 → τ1 = mup (mst (σ) 4 0 ((σ) 4 0 + 1)) (200 + g 2) wr → post ((nI (g1 2)) - 1) ad1 g1 (τ1)))
def q_X8_commit_75 (ad : Nat → Nat) (g : Nat → Nat) (post : Int32 → (Nat → Nat) → (Nat → Nat) → Mem → Prop) (kE_82 : Nat → (Nat → Int32) → Mem → Prop) (kc_40 : Int32 → Nat → (Nat → Int32) → Mem → Prop) (s0 : Int32) (s1 : Int32) (x2 : Int32) (wi : Nat) (wr : (Nat → Int32)) (σ : Mem) : Prop := (vp_in s1 5 ∧ (∀ f4002 : Nat → Int32, f4002 = upd wr s1.toNatClampNeg s0 → (∀ v4003 : Int32, v4003 = x2 + 1 → kc_40 v4003 wi f4002 (σ))))
def q_X8_commit_74 (ad : Nat → Nat) (g : Nat → Nat) (post : Int32 → (Nat → Nat) → (Nat → Nat) → Mem → Prop) (kE_82 : Nat → (Nat → Int32) → Mem → Prop) (kc_40 : Int32 → Nat → (Nat → Int32) → Mem → Prop) (s0 : Int32) (x2 : Int32) (wi : Nat) (wr : (Nat → Int32)) (σ : Mem) : Prop := (q_X8_commit_75 ad g post kE_82 kc_40) (-1) s0 x2 wi wr (σ)
def q_X8_commit_40 (ad : Nat → Nat) (g : Nat → Nat) (post : Int32 → (Nat → Nat) → (Nat → Nat) → Mem → Prop) (kE_82 : Nat → (Nat → Int32) → Mem → Prop) (kc_40 : Int32 → Nat → (Nat → Int32) → Mem → Prop) (x2 : Int32) (wi : Nat) (wr : (Nat → Int32)) (σ : Mem) : Prop := ((5 ≤ x2 → kE_82 wi wr (σ)) ∧ (¬ (5 ≤ x2) → ((((σ) 0 3) ≤ x2 → (q_X8_commit_74 ad g post kE_82 kc_40) x2 x2 wi wr (σ)) ∧ (¬ (((σ) 0 3) ≤ x2) → (q_X8_count (g 0) (g 2) (fun (r2003 : Int32) (σ2004 : Mem) => ((r2003 ≠ 1 → (q_X8_commit_74 ad g post kE_82 kc_40) x2 x2 wi wr (σ2004)) ∧ (r2003 = 1 → (q_X8_least (g 0) (g 2) (fun (r2006 : Int32) (σ2007 : Mem) => (q_X8_commit_75 ad g post kE_82 kc_40) r2006 x2 x2 wi wr (σ2007)) 0 x2 (σ2004))))) 0 x2 (σ))))))
def q_X8_commit_24 (ad : Nat → Nat) (g : Nat → Nat) (post : Int32 → (Nat → Nat) → (Nat → Nat) → Mem → Prop)  (σ : Mem) : Prop := (q_X8_refuse (g 0) (g 2) (fun (r1001 : Int32) (σ1002 : Mem) => post r1001 ad g (σ1002)) 1 (σ))
def q_X8_commit (ad : Nat → Nat) (g : Nat → Nat) (post : Int32 → (Nat → Nat) → (Nat → Nat) → Mem → Prop) (σ : Mem) : Prop := (∀ σ1 : Mem, σ1 = mst (σ) 0 0 0 → (q_X8_isContradiction (g 0) (g 2) (fun (r2 : Int32) (σ3 : Mem) => ((r2 ≠ 0 → (q_X8_commit_24 ad g post) (σ3)) ∧ (r2 = 0 → (((nI (g 2)) ≠ 12 → (∀ q6 : Nat, (q_X8_settle (g 0) (g 2) (fun (σ8 : Mem) => (∃ n9 : Nat, lp_4 (q_X8_commit_40 ad g post (q_X8_commit_82 ad g post)) n9 0 q6 (fun _ => 0) (σ8))) (σ3)))) ∧ ((nI (g 2)) = 12 → (q_X8_commit_24 ad g post) (σ3)))))) (σ1)))
abbrev rm_X8_commit : Room := { frames := 14, cells := 2, slots := 38, locals := 700 }
abbrev wq_X8_commit : List Cond := Cond.code yX8_commit cX8_commit 3 (some .int) :: wALL
set_option maxHeartbeats 4000000 in
set_option maxRecDepth 100000 in
theorem c_X8_commit (l : Launch) (D : va_G) (k ad g : Nat → Nat) (hgk : gk g) {sz : Nat} {σ : Mem} {post : Int32 → (Nat → Nat) → (Nat → Nat) → Mem → Prop} (hp : q_X8_commit ad g post σ) : Met l yX8_commit wq_X8_commit rm_X8_commit (va_Pc [.ref (ad 0)] (Pw D k (WM k ad g σ) sz)) (va_Qi (fun r (u : (Nat → Nat) × (Nat → Nat) × Mem) => post r u.1 u.2.1 u.2.2) (fun u => Bw D (WM k ad g σ) sz (WM k u.1 u.2.1 u.2.2)) (va_A (WM k ad g σ) sz)) 2 38 (va_A (WM k ad g σ) sz) := by
  have hg := hgk.1
  refine fw_i (wf := fun u : (Nat → Nat) × (Nat → Nat) × Mem => WM k u.1 u.2.1 u.2.2) (post := fun r u => post r u.1 u.2.1 u.2.2) (by decide) rfl (Nat.le_of_ble_eq_true rfl) ?_
  intro p e s m args below meth c A Q ls hC hP hD hl hret
  obtain ⟨⟨hx, hb, hml, hown, hts⟩, hG, hA⟩ := id hC
  have hK := hG.1
  have hS : va_S A s.heap s.heap [] := va_S.rf
  have hin_X8 : ∀ w ∈ u_ws RX8 TX8 15, w ∈ wq_X8_commit := fun w h => List.mem_cons_of_mem _ (iU_X8 w h)
  have hf_41 := hts _ (List.mem_cons_of_mem _ A_595)
  have hf_23 := hts _ (List.mem_cons_of_mem _ A_585)
  have hf_45 := hts _ (List.mem_cons_of_mem _ A_598)
  have hl : lv_has ls 3 [(0, .ref (ad 0))] := hl
  have hown : s.vm.findClass RX8 = some m.cls := hown
  unfold q_X8_commit at hp
  have B_82 : ∀ (wi : Nat) (wr : (Nat → Int32)) (σ : Mem) (H : Heap) (locs : List Loc) (ls : Array Slot), va_P D vwCl (WM k ad g (σ) ++ [(wi, .inl (k 0, 5, .inl wr))]) H → va_D A (WM k ad g (σ) ++ [(wi, .inl (k 0, 5, .inl wr))]) → va_S A s.heap H locs → lv_has ls 3 [(0, .ref (ad 0)), (1, .ref wi)] → (q_X8_commit_82 ad g post) wi wr σ → W p l e rm_X8_commit s m args below meth c H locs 1 5 Q (F0 m 82 ls []) := by
    intro wi wr σ H locs ls hP hD hS hl hp
    unfold q_X8_commit_82 at hp
    refine lv_aload_n hx hb dX8_commit_82 rfl (lv_at hl 0 rfl) ?_
    refine va_get (D := D) (ci := 12) (C := RX8) (T := TX8) (N := 15) hx hb hts hin_X8 hown hK hP 0 rfl rfl 5 (by decide) hf_23 (fun _ h9 => h9) rfl dX8_commit_83 ?_
    refine lv_aload_n hx hb dX8_commit_86 rfl (lv_at hl 1 rfl) ?_
    obtain ⟨h39, hp⟩ := hp
    refine wm_add_c (rest := []) hC hgk h39 (gA_V (a := Cond.code yX8_commit cX8_commit 3 (some .int)) A_669 A_670 A_671 A_583 A_661) hl.1 rfl (Nat.le_of_ble_eq_true rfl) (Nat.le_of_ble_eq_true rfl) (Nat.le_of_ble_eq_true rfl) dX8_commit_87 ⟨Nat.le_of_ble_eq_true rfl, Nat.le_of_ble_eq_true rfl⟩ hP hD hS (fun ad1 g1 τ1 q0 q1 q2 q3 q4 H locs hP hD hS => ?_)
    have hp := hp ad1 g1 τ1 q0 q1 q2 q3 q4
    rw [← q0] at hl
    refine lv_pop hx hb dX8_commit_90 rfl ?_
    refine lv_aload_n hx hb dX8_commit_91 rfl (lv_at hl 0 rfl) ?_
    refine va_get (D := D) (ci := 12) (C := RX8) (T := TX8) (N := 15) hx hb hts hin_X8 hown hK hP 0 rfl rfl 5 (by decide) hf_23 (fun _ h9 => h9) rfl dX8_commit_92 ?_
    refine wm_size_commit (rest := []) hC (gA_V (a := Cond.code yX8_commit cX8_commit 3 (some .int)) A_605 A_606 A_607 A_583 A_602) hl.1 rfl (Nat.le_of_ble_eq_true rfl) (Nat.le_of_ble_eq_true rfl) (Nat.le_of_ble_eq_true rfl) dX8_commit_95 ⟨Nat.le_of_ble_eq_true rfl, Nat.le_of_ble_eq_true rfl⟩ hP hD hS (fun H locs hP hD hS => ?_)
    refine lv_iconst (v := 1) hx hb dX8_commit_98 (by decide) ?_
    refine lv_isub hx hb dX8_commit_99 ?_
    exact hret ((nI (g1 2)) - 1) (ad1, g1, τ1) _ _ _ _ _ _ dX8_commit_100 rfl hP hD hS (Nat.le_of_ble_eq_true rfl) (Nat.le_of_ble_eq_true rfl) hp
  have B_40 : ∀ (n_40 : Nat) (x2 : Int32) (wi : Nat) (wr : (Nat → Int32)) (σ : Mem) (H : Heap) (locs : List Loc) (ls : Array Slot), va_P D vwCl (WM k ad g (σ) ++ [(wi, .inl (k 0, 5, .inl wr))]) H → va_D A (WM k ad g (σ) ++ [(wi, .inl (k 0, 5, .inl wr))]) → va_S A s.heap H locs → lv_has ls 3 [(0, .ref (ad 0)), (1, .ref wi), (2, .int x2)] → lp_4 (q_X8_commit_40 ad g post (q_X8_commit_82 ad g post)) n_40 x2 wi wr σ → W p l e rm_X8_commit s m args below meth c H locs 1 5 Q (F0 m 40 ls []) := by
    intro n_40
    induction n_40 with
    | zero => intro x2 wi wr σ H locs ls hP hD hS hl hp; exact hp.elim
    | succ n_40 ih_40 =>
      have B_75 : ∀ (s0 : Int32) (s1 : Int32) (x2 : Int32) (wi : Nat) (wr : (Nat → Int32)) (σ : Mem) (H : Heap) (locs : List Loc) (ls : Array Slot), va_P D vwCl (WM k ad g (σ) ++ [(wi, .inl (k 0, 5, .inl wr))]) H → va_D A (WM k ad g (σ) ++ [(wi, .inl (k 0, 5, .inl wr))]) → va_S A s.heap H locs → lv_has ls 3 [(0, .ref (ad 0)), (1, .ref wi), (2, .int x2)] → (q_X8_commit_75 ad g post (q_X8_commit_82 ad g post) (lp_4 (q_X8_commit_40 ad g post (q_X8_commit_82 ad g post)) n_40)) s0 s1 x2 wi wr σ → W p l e rm_X8_commit s m args below meth c H locs 1 5 Q (F0 m 75 ls [.int s0, .int s1, .ref wi]) := by
        intro s0 s1 x2 wi wr σ H locs ls hP hD hS hl hp
        unfold q_X8_commit_75 at hp
        obtain ⟨h40001, hp⟩ := hp
        refine va_iast hx hb hK hP hD hS ((WM k ad g (σ)).length + 0) 0 (app_r rfl) rfl h40001 dX8_commit_75 (fun H locs hP hD hS => ?_)
        rw [sapp rfl 0] at hP hD
        obtain ⟨f40002, ef40002⟩ : ∃ z : Nat → Int32, z = upd wr s1.toNatClampNeg s0 := ⟨_, rfl⟩
        have hp := hp f40002 ef40002
        have hP : va_P D vwCl (WM k ad g (σ) ++ [(wi, .inl (k 0, 5, .inl f40002))]) H := by rw [ef40002]; exact hP
        have hD : va_D A (WM k ad g (σ) ++ [(wi, .inl (k 0, 5, .inl f40002))]) := by rw [ef40002]; exact hD
        obtain ⟨v40003, ev40003⟩ : ∃ z : Int32, z = x2 + 1 := ⟨_, rfl⟩
        have hp := hp v40003 ev40003
        refine lv_iinc (v := v40003) (lv' := [(2, .int v40003), (0, .ref (ad 0)), (1, .ref wi)]) hx hb dX8_commit_76 hl (k := 2) rfl (by rw [ev40003]; rfl) (by decide) rfl (fun ls hl => ?_)
        refine lv_goto (tgt := 40) hx hb dX8_commit_79 (by decide) ?_
        exact ih_40 v40003 wi f40002 (σ) _ _ _  hP hD hS (lv_sub hl [1, 2, 0] rfl) hp
      have B_74 : ∀ (s0 : Int32) (x2 : Int32) (wi : Nat) (wr : (Nat → Int32)) (σ : Mem) (H : Heap) (locs : List Loc) (ls : Array Slot), va_P D vwCl (WM k ad g (σ) ++ [(wi, .inl (k 0, 5, .inl wr))]) H → va_D A (WM k ad g (σ) ++ [(wi, .inl (k 0, 5, .inl wr))]) → va_S A s.heap H locs → lv_has ls 3 [(0, .ref (ad 0)), (1, .ref wi), (2, .int x2)] → (q_X8_commit_74 ad g post (q_X8_commit_82 ad g post) (lp_4 (q_X8_commit_40 ad g post (q_X8_commit_82 ad g post)) n_40)) s0 x2 wi wr σ → W p l e rm_X8_commit s m args below meth c H locs 1 5 Q (F0 m 74 ls [.int s0, .ref wi]) := by
        intro s0 x2 wi wr σ H locs ls hP hD hS hl hp
        unfold q_X8_commit_74 at hp
        refine lv_iconst (v := (-1)) hx hb dX8_commit_74 (by decide) ?_
        exact B_75 (-1) s0 x2 wi wr (σ) _ _ _  hP hD hS (lv_sub hl [0, 1, 2] rfl) hp
      intro x2 wi wr σ H locs ls hP hD hS hl hp
      have hp : q_X8_commit_40 ad g post (q_X8_commit_82 ad g post) (lp_4 (q_X8_commit_40 ad g post (q_X8_commit_82 ad g post)) n_40) x2 wi wr σ := hp
      unfold q_X8_commit_40 at hp
      refine lv_iload_n hx hb dX8_commit_40 rfl (lv_at hl 2 rfl) ?_
      refine lv_iconst (v := 5) hx hb dX8_commit_41 (by decide) ?_
      refine lv_icmp_ge (tgt := 82) hx hb dX8_commit_42 (by decide) (fun c20001 => ?_) (fun c20001 => ?_)
      · have hp := hp.1 c20001
        exact B_82 wi wr (σ) _ _ _  hP hD hS (lv_sub hl [0, 1] rfl) hp
      · have hp := hp.2 c20001
        refine lv_aload_n hx hb dX8_commit_45 rfl (lv_at hl 1 rfl) ?_
        refine lv_iload_n hx hb dX8_commit_46 rfl (lv_at hl 2 rfl) ?_
        refine lv_iload_n hx hb dX8_commit_47 rfl (lv_at hl 2 rfl) ?_
        refine lv_aload_n hx hb dX8_commit_48 rfl (lv_at hl 0 rfl) ?_
        refine va_get (D := D) (ci := 12) (C := RX8) (T := TX8) (N := 15) hx hb hts hin_X8 hown hK hP 0 rfl rfl 3 (by decide) hf_45 (fun _ h9 => h9) rfl dX8_commit_49 ?_
        refine lv_icmp_ge (tgt := 74) hx hb dX8_commit_52 (by decide) (fun c20002 => ?_) (fun c20002 => ?_)
        · have hp := hp.1 c20002
          exact B_74 x2 x2 wi wr (σ) _ _ _  hP hD hS (lv_sub hl [0, 1, 2] rfl) hp
        · have hp := hp.2 c20002
          refine lv_aload_n hx hb dX8_commit_55 rfl (lv_at hl 0 rfl) ?_
          refine lv_iconst (v := 0) hx hb dX8_commit_56 (by decide) ?_
          refine lv_iload_n hx hb dX8_commit_57 rfl (lv_at hl 2 rfl) ?_
          refine fw_ciV (As := [.int 0, .int x2]) (rest := [.int x2, .ref wi]) hC (c_X8_count l D k ad g hg hp) (cwV 2 hts (gA_V A_737 A_738 A_739 A_601 A_691) rfl rfl rfl (by decide +kernel) ⟨Nat.le_of_ble_eq_true rfl, Nat.le_of_ble_eq_true rfl⟩) (va_recv hK hP (ci := 12) (q0 := 0) rfl rfl) rfl hl.1 rfl (Nat.le_of_ble_eq_true rfl) dX8_commit_58 ⟨Nat.le_of_ble_eq_true rfl, Nat.le_of_ble_eq_true rfl⟩ (P_left hP) (D_left hD) hS (Jn.left hP hD) (fun r20003 σ20004 H locs hP hD hS hp => ?_)
          have hP : va_P D vwCl (WM k ad g (σ20004) ++ [(wi, .inl (k 0, 5, .inl wr))]) H := hP
          have hD : va_D A (WM k ad g (σ20004) ++ [(wi, .inl (k 0, 5, .inl wr))]) := hD
          refine lv_iconst (v := 1) hx hb dX8_commit_61 (by decide) ?_
          refine lv_icmp_ne (tgt := 74) hx hb dX8_commit_62 (by decide) (fun c20005 => ?_) (fun c20005 => ?_)
          · have hp := hp.1 c20005
            exact B_74 x2 x2 wi wr (σ20004) _ _ _  hP hD hS (lv_sub hl [0, 1, 2] rfl) hp
          · have hp := hp.2 c20005
            refine lv_aload_n hx hb dX8_commit_65 rfl (lv_at hl 0 rfl) ?_
            refine lv_iconst (v := 0) hx hb dX8_commit_66 (by decide) ?_
            refine lv_iload_n hx hb dX8_commit_67 rfl (lv_at hl 2 rfl) ?_
            refine fw_ciV (As := [.int 0, .int x2]) (rest := [.int x2, .ref wi]) hC (c_X8_least l D k ad g hg hp) (cwV 2 hts (gA_V A_756 A_757 A_758 A_601 A_698) rfl rfl rfl (by decide +kernel) ⟨Nat.le_of_ble_eq_true rfl, Nat.le_of_ble_eq_true rfl⟩) (va_recv hK hP (ci := 12) (q0 := 0) rfl rfl) rfl hl.1 rfl (Nat.le_of_ble_eq_true rfl) dX8_commit_68 ⟨Nat.le_of_ble_eq_true rfl, Nat.le_of_ble_eq_true rfl⟩ (P_left hP) (D_left hD) hS (Jn.left hP hD) (fun r20006 σ20007 H locs hP hD hS hp => ?_)
            have hP : va_P D vwCl (WM k ad g (σ20007) ++ [(wi, .inl (k 0, 5, .inl wr))]) H := hP
            have hD : va_D A (WM k ad g (σ20007) ++ [(wi, .inl (k 0, 5, .inl wr))]) := hD
            refine lv_goto (tgt := 75) hx hb dX8_commit_71 (by decide) ?_
            exact B_75 r20006 x2 x2 wi wr (σ20007) _ _ _  hP hD hS (lv_sub hl [0, 1, 2] rfl) hp
  have B_24 : ∀  (σ : Mem) (H : Heap) (locs : List Loc) (ls : Array Slot), va_P D vwCl (WM k ad g (σ)) H → va_D A (WM k ad g (σ)) → va_S A s.heap H locs → lv_has ls 3 [(0, .ref (ad 0))] → (q_X8_commit_24 ad g post)  σ → W p l e rm_X8_commit s m args below meth c H locs 0 0 Q (F0 m 24 ls []) := by
    intro  σ H locs ls hP hD hS hl hp
    unfold q_X8_commit_24 at hp
    refine lv_aload_n hx hb dX8_commit_24 rfl (lv_at hl 0 rfl) ?_
    refine lv_iconst (v := 1) hx hb dX8_commit_25 (by decide) ?_
    refine fw_ciV (As := [.int 1]) (rest := []) hC (c_X8_refuse l D k ad g hg hp) (cwV 1 hts (gA_V A_629 A_630 A_631 A_601 A_594) rfl rfl rfl (by decide +kernel) ⟨Nat.le_of_ble_eq_true rfl, Nat.le_of_ble_eq_true rfl⟩) (va_recv hK hP (ci := 12) (q0 := 0) rfl rfl) rfl hl.1 rfl (Nat.le_of_ble_eq_true rfl) dX8_commit_26 ⟨Nat.le_of_ble_eq_true rfl, Nat.le_of_ble_eq_true rfl⟩ hP hD hS Jn.same (fun r10001 σ10002 H locs hP hD hS hp => ?_)
    have hP : va_P D vwCl (WM k ad g (σ10002)) H := hP
    have hD : va_D A (WM k ad g (σ10002)) := hD
    exact hret r10001 (ad, g, σ10002) _ _ _ _ _ _ dX8_commit_29 rfl hP hD hS (Nat.le_of_ble_eq_true rfl) (Nat.le_of_ble_eq_true rfl) hp
  refine lv_aload_n hx hb dX8_commit_0 rfl (lv_at hl 0 rfl) ?_
  refine lv_iconst (v := 0) hx hb dX8_commit_1 (by decide) ?_
  refine va_put (D := D) (ci := 12) (v := .int 0) (ty := .int) (C := RX8) (T := TX8) (N := 15) hx hb hts hin_X8 tyX8 tyX8_ok nmX8 hown hK hP hD hS 0 rfl rfl 0 (by decide) hf_41 (fun _ h9 => h9) rfl (by decide +kernel) rfl rfl (Nat.le_of_ble_eq_true rfl) dX8_commit_2 (fun H locs hP hD hS => ?_)
  obtain ⟨σ1, eσ1⟩ : ∃ z : Mem, z = mst (σ) 0 0 0 := ⟨_, rfl⟩
  have hp := hp σ1 eσ1
  have hP : va_P D vwCl (WM k ad g (σ1)) H := by rw [eσ1, WM_s (by decide)]; exact hP
  have hD : va_D A (WM k ad g (σ1)) := by rw [eσ1, WM_s (by decide)]; exact hD
  refine lv_aload_n hx hb dX8_commit_5 rfl (lv_at hl 0 rfl) ?_
  refine fw_ciV (As := []) (rest := []) hC (c_X8_isContradiction l D k ad g hg hp) (cwV 0 hts (gA_V A_778 A_779 A_780 A_601 A_760) rfl rfl rfl (by decide +kernel) ⟨Nat.le_of_ble_eq_true rfl, Nat.le_of_ble_eq_true rfl⟩) (va_recv hK hP (ci := 12) (q0 := 0) rfl rfl) rfl hl.1 rfl (Nat.le_of_ble_eq_true rfl) dX8_commit_6 ⟨Nat.le_of_ble_eq_true rfl, Nat.le_of_ble_eq_true rfl⟩ hP hD hS Jn.same (fun r2 σ3 H locs hP hD hS hp => ?_)
  have hP : va_P D vwCl (WM k ad g (σ3)) H := hP
  have hD : va_D A (WM k ad g (σ3)) := hD
  refine lv_if_ne (tgt := 24) hx hb dX8_commit_9 (by decide) (fun c4 => ?_) (fun c4 => ?_)
  · have hp := hp.1 c4
    exact B_24  (σ3) _ _ _  hP hD hS (lv_sub hl [0] rfl) hp
  · have hp := hp.2 c4
    refine lv_aload_n hx hb dX8_commit_12 rfl (lv_at hl 0 rfl) ?_
    refine va_get (D := D) (ci := 12) (C := RX8) (T := TX8) (N := 15) hx hb hts hin_X8 hown hK hP 0 rfl rfl 5 (by decide) hf_23 (fun _ h9 => h9) rfl dX8_commit_13 ?_
    refine wm_size_commit (rest := []) hC (gA_V (a := Cond.code yX8_commit cX8_commit 3 (some .int)) A_605 A_606 A_607 A_583 A_602) hl.1 rfl (Nat.le_of_ble_eq_true rfl) (Nat.le_of_ble_eq_true rfl) (Nat.le_of_ble_eq_true rfl) dX8_commit_16 ⟨Nat.le_of_ble_eq_true rfl, Nat.le_of_ble_eq_true rfl⟩ hP hD hS (fun H locs hP hD hS => ?_)
    refine lv_bipush (v := 12) hx hb dX8_commit_19 (by decide) ?_
    refine lv_icmp_ne (tgt := 30) hx hb dX8_commit_21 (by decide) (fun c5 => ?_) (fun c5 => ?_)
    · have hp := hp.1 c5
      refine lv_iconst (v := 5) hx hb dX8_commit_30 (by decide) ?_
      refine nw_int hC (hts _ (List.mem_cons_of_mem _ A_5)) hP hD hS (by decide) (N' := 5) (by decide) (Nat.le_of_ble_eq_true rfl) (Nat.le_of_ble_eq_true rfl) (Nat.le_of_ble_eq_true rfl) dX8_commit_31 (fun q6 H hP hD hS => ?_)
      have hp := hp q6
      refine lv_astore_n (lv' := [(1, .ref q6), (0, .ref (ad 0))]) hx hb dX8_commit_33 rfl hl (by decide) rfl (fun ls hl => ?_)
      refine lv_aload_n hx hb dX8_commit_34 rfl (lv_at hl 1 rfl) ?_
      refine fw_cvV (As := []) (rest := []) hC (c_X8_settle l D k ad g hg hp) (cwV 0 hts (gA_V A_753 A_754 A_755 A_601 A_752) rfl rfl rfl (by decide +kernel) ⟨Nat.le_of_ble_eq_true rfl, Nat.le_of_ble_eq_true rfl⟩) (va_recv hK hP (ci := 12) (q0 := 0) rfl rfl) rfl hl.1 rfl (Nat.le_of_ble_eq_true rfl) dX8_commit_35 ⟨Nat.le_of_ble_eq_true rfl, Nat.le_of_ble_eq_true rfl⟩ (P_left hP) (D_left hD) hS (Jn.left hP hD) (fun σ8 H locs hP hD hS hp => ?_)
      have hP : va_P D vwCl (WM k ad g (σ8) ++ [(q6, .inl (k 0, 5, .inl (fun _ => 0)))]) H := hP
      have hD : va_D A (WM k ad g (σ8) ++ [(q6, .inl (k 0, 5, .inl (fun _ => 0)))]) := hD
      refine lv_iconst (v := 0) hx hb dX8_commit_38 (by decide) ?_
      refine lv_istore_n (lv' := [(2, .int 0), (1, .ref q6), (0, .ref (ad 0))]) hx hb dX8_commit_39 rfl hl (by decide) rfl (fun ls hl => ?_)
      obtain ⟨n9, hp⟩ := hp
      exact B_40 n9 0 q6 (fun _ => 0) (σ8) _ _ _  hP hD hS (lv_sub hl [2, 1, 0] rfl) hp
    · have hp := hp.2 c5
      exact B_24  (σ3) _ _ _  hP hD hS (lv_sub hl [0] rfl) hp
