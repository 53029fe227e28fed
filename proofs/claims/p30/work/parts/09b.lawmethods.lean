def lp_8 {α β γ δ ε ζ η θ : Type} (F : (α → β → γ → δ → ε → ζ → η → θ → Prop) → α → β → γ → δ → ε → ζ → η → θ → Prop) : Nat → α → β → γ → δ → ε → ζ → η → θ → Prop
  | 0, _, _, _, _, _, _, _, _ => False
  | n + 1, a, b, c, d, x, z, w, v => F (lp_8 F n) a b c d x z w v
def lp_9 {α β γ δ ε ζ η θ ι : Type} (F : (α → β → γ → δ → ε → ζ → η → θ → ι → Prop) → α → β → γ → δ → ε → ζ → η → θ → ι → Prop) : Nat → α → β → γ → δ → ε → ζ → η → θ → ι → Prop
  | 0, _, _, _, _, _, _, _, _, _ => False
  | n + 1, a, b, c, d, x, z, w, v, u => F (lp_9 F n) a b c d x z w v u
def lp_10 {α β γ δ ε ζ η θ ι κ : Type} (F : (α → β → γ → δ → ε → ζ → η → θ → ι → κ → Prop) → α → β → γ → δ → ε → ζ → η → θ → ι → κ → Prop) : Nat → α → β → γ → δ → ε → ζ → η → θ → ι → κ → Prop
  | 0, _, _, _, _, _, _, _, _, _, _ => False
  | n + 1, a, b, c, d, x, z, w, v, u, t => F (lp_10 F n) a b c d x z w v u t
def lp_11 {α β γ δ ε ζ η θ ι κ ν : Type} (F : (α → β → γ → δ → ε → ζ → η → θ → ι → κ → ν → Prop) → α → β → γ → δ → ε → ζ → η → θ → ι → κ → ν → Prop) : Nat → α → β → γ → δ → ε → ζ → η → θ → ι → κ → ν → Prop
  | 0, _, _, _, _, _, _, _, _, _, _, _ => False
  | n + 1, a, b, c, d, x, z, w, v, u, t, s => F (lp_11 F n) a b c d x z w v u t s
/-! THE LAW'S FRAME: methods with a table of exceptions -/
abbrev eIS : String := "java/lang/IllegalStateException"
def tbE (q : Nat × Nat × Nat × Nat) : ExceptionTableEntry := ⟨q.1, q.2.1, q.2.2.1, q.2.2.2⟩
theorem tb_of {T : List ExceptionTableEntry} {hh : List (Nat × Nat × Nat × Nat)} (h : T.map (fun h => (h.startPc, h.endPc, h.handlerPc, h.catchType)) = hh) : T = hh.map tbE := by
  rw [← h, List.map_map]
  exact (List.map_id'' (fun _ => rfl) T).symm
section FL
variable {S : Type} {l : Launch} {y : MethodName} {wsy wsy' : List Cond} {cc : ByteArray} {maxL : Nat} {rm : Room} {mc ms : Nat} {D : va_G} {k : Nat → Nat} {W0 : va_W} {wf : S → va_W} {av : List Value} {sz : Nat} {hh : List (Nat × Nat × Nat × Nat)}
theorem fw_X {ty : FieldType} {post : Int32 → S → Prop} (hy : plainName y.cls = true) (hw : wsy = Cond.codeWith y cc maxL (some ty) hh :: wsy') (hlen : (lg_sl av).length ≤ maxL)
    (body : ∀ (p : Program) (e : Env) (s : State) (m : MethodId) (args : Array Value) (below : List Frame) (meth : Method) (c : Code) (A : Nat → Prop) (Q : State → Prop) (ls : Array Slot),
      Cx p m c cc maxL s args wsy y.cls D k A → c.exceptionTable.toList = hh.map tbE → va_P D vwCl W0 s.heap → va_D A W0 → lv_has ls maxL (lv_args 0 av) →
      (∀ (r : Int32) (u : S) (H : Heap) (locs : List Loc) (cells slots pc : Nat) (ls' : Array Slot), decode cc pc = .ok (.ireturn, 1) → narrow ty (.int r) = .int r → va_P D vwCl (wf u) H → va_D A (wf u) → va_S A s.heap H locs → cells ≤ mc → slots ≤ ms → post r u → W p l e rm s m args below meth c H locs cells slots Q (F0 m pc ls' [.int r])) →
      W p l e rm s m args below meth c s.heap [] 0 0 Q (F0 m 0 ls [])) :
    Met l y wsy rm (va_Pc av (Pw D k W0 sz)) (va_Qi post (fun u => Bw D W0 sz (wf u)) (va_A W0 sz)) mc ms (va_A W0 sz) := by
  refine vx_toMet (px := fun _ : Unit => False) (BX := fun _ _ _ => True) (AX := fun _ => True) (vx_ofWH (cc := cc) (maxL := maxL) (ret := some ty) (hh := hh) hy hw ?_) (fun _ h => h)
  intro p e s m args below meth c s₁ B hml hv
  obtain ⟨rfl, hsz, hP, hD0, hG⟩ := hv
  subst hsz
  have hown9 : s.vm.findClass y.cls = some m.cls := findClass_of_methodNamed B.named
  have htb : c.exceptionTable.toList = hh.map tbE := by
    obtain ⟨m9, meth9, c9, hn9, h1, h2, h3, h4, h7, h5, h6, -⟩ := Cond.codeWith_spec (atoms_spec (ws := wsy) B.pre _ (by rw [hw]; exact List.mem_cons_self))
    cases Option.some.inj (B.named.symm.trans hn9)
    cases Option.some.inj (h1.symm.trans B.method)
    cases Option.some.inj (h2.symm.trans (Stand.of_body B).code)
    exact tb_of h7
  have hlocks := B.notSynchronized
  have hl := lv_entry av hlen
  rw [lg_entry_eq]
  generalize (lg_sl av ++ List.replicate (maxL - (lg_sl av).length) Slot.unset).toArray = ls at hl ⊢
  refine body p e s m _ below meth c (va_A W0 s.heap.size) _ ls ⟨⟨B.exec, B.bytes, hml, hown9, atoms_spec (ws := wsy) B.pre⟩, hG, fun q h => Or.inr h⟩ htb hP hD0.self hl ?_
  intro r u H locs cells slots pc ls' hdg hn hP hD hS hc hs hq
  refine vx_ret (W.widen hc hs ?_)
  exact W.zret B.exec B.bytes B.returns hn (fun t ht hW => ⟨⟨r, u, rfl, hq, by rw [ht]; exact hP, hD⟩, hS.F ht⟩) hS.2.2 hdg
end FL
section FSX
variable {p : Program} {l : Launch} {e : Env} {R : Room} {s : State} {m : MethodId} {args : Array Value} {below : List Frame} {meth : Method} {c : Code} {H : Heap} {locs : List Loc} {cells slots : Nat} {Q : State → Prop}
variable {S : Type} {y : MethodName} {wsy Ts : List Cond} {rmy : Room} {bytes cc : ByteArray} {maxL nL mc ms n index pc : Nat} {ret : Option FieldType} {own : String} {As rest st : List Value} {wc : va_W} {wf wN : S → va_W} {D : va_G} {k : Nat → Nat} {A : Nat → Prop} {ls : Array Slot} {hh : List (Nat × Nat × Nat × Nat)}
theorem fw_ciSX {post : Int32 → S → Prop} (hC : Cx p m c cc nL s args Ts own D k A)
    (hM : Met l y wsy rmy (va_Pc As (Pw D k wc H.size)) (va_Qi post (fun u => Bw D wc H.size (wf u)) (va_A wc H.size)) mc ms (va_A wc H.size))
    (cw : vx_CSW R s args own index y bytes maxL ret hh wsy rmy mc ms n)
    (hn : As.length = n) (hsz : ls.size = nL) (hst : st = As.reverse ++ rest) (hW : (rest.map fun v => v.category).sum ≤ 8) (hdg : decode cc pc = .ok (.invokestatic index, 3)) (hf : cells + mc ≤ R.cells ∧ slots + ms ≤ R.slots)
    (hPc : va_P D vwCl wc H) (hDc : va_D A wc) (hS : va_S A s.heap H locs) (J : Jn D A wc H wf wN)
    (kk : ∀ (r : Int32) (u : S) (H1 : Heap) (locs1 : List Loc), va_P D vwCl (wN u) H1 → va_D A (wN u) → va_S A s.heap H1 locs1 → post r u → W p l e R s m args below meth c H1 locs1 (cells + mc) (slots + ms) Q (F0 m (pc + 3) ls (.int r :: rest))) :
    W p l e R s m args below meth c H locs cells slots Q (F0 m pc ls st) := by
  have hFc := va_free0 hDc hS hC.2.2
  refine va_calli (vx_runSW (As := As) (rest := rest) hC.1 hM cw ⟨Pw_blind, fw_pre hC hPc hDc hS⟩ rfl hn hsz hst (lv_room hW) hdg hf) hS (fun q _ h => hFc q h) hFc (fun r u t H1 locs1 ht hvm hq hB hz1 hk1 hS1 => ?_)
  obtain ⟨hP1, hD1⟩ := hB
  rw [ht] at hP1
  obtain ⟨hP2, hD2⟩ := J u H1 hP1 hD1 hz1 hk1 hFc
  exact kk r u H1 locs1 hP2 hD2 hS1 hq
end FSX

def q_L_below  (post : Int32 → Mem → Prop) (p1 : Int32) (p2 : Int32) (σ : Mem) : Prop := (¬ p2 = 0 ∧ post ((p1 &&& 2147483647) - (p1 &&& 2147483647) / p2 * p2) (σ))
abbrev rm_L_below : Room := { frames := 0, cells := 0, slots := 0, locals := 0 }
abbrev wq_L_below : List Cond := Cond.code yL_below cL_below 2 (some .int) :: wLAW
set_option maxHeartbeats 4000000 in
set_option maxRecDepth 100000 in
theorem c_L_below (l : Launch) (D : va_G) (k : Nat → Nat) {sz : Nat} {σ : Mem} {p1 : Int32} {p2 : Int32} {post : Int32 → Mem → Prop} (hp : q_L_below post p1 p2 σ) : Met l yL_below wq_L_below rm_L_below (va_Pc [.int p1, .int p2] (Pw D k ([]) sz)) (va_Qi post (fun u => Bw D ([]) sz ([])) (va_A [] sz)) 0 0 (va_A [] sz) := by
  refine fw_i (wf := fun u : Mem => []) (by decide) rfl (Nat.le_of_ble_eq_true rfl) ?_
  intro p e s m args below meth c A Q ls hC hP hD hl hret
  obtain ⟨⟨hx, hb, hml, hown, hts⟩, hG, hA⟩ := id hC
  have hK := hG.1
  have hS : va_S A s.heap s.heap [] := va_S.rf
  have hl : lv_has ls 2 [(0, .int p1), (1, .int p2)] := hl
  have hown : s.vm.findClass RL = some m.cls := hown
  unfold q_L_below at hp
  refine lv_iload_n hx hb dL_below_0 rfl (lv_at hl 0 rfl) ?_
  refine lv_ldc (v := 2147483647) hx hb hown (hts _ (List.mem_cons_of_mem _ B_1)) dL_below_1 ?_
  refine lv_iand hx hb dL_below_3 ?_
  refine lv_iload_n hx hb dL_below_4 rfl (lv_at hl 1 rfl) ?_
  obtain ⟨h1, hp⟩ := hp
  refine lv_irem hx hb dL_below_5 h1 ?_
  exact hret ((p1 &&& 2147483647) - (p1 &&& 2147483647) / p2 * p2) (σ) _ _ _ _ _ _ dL_below_6 rfl hP hD hS (Nat.le_of_ble_eq_true rfl) (Nat.le_of_ble_eq_true rfl) hp
def q_L_isSo_437  (post : Int32 → Mem → Prop)  (s0 : Int32) (σ : Mem) : Prop := (bz s0 ∧ post s0 (σ))
def q_L_isSo_436  (post : Int32 → Mem → Prop)  (σ : Mem) : Prop := (q_L_isSo_437 post) 0 (σ)
def q_L_isSo_432  (post : Int32 → Mem → Prop)  (σ : Mem) : Prop := (q_L_isSo_437 post) 1 (σ)
def q_L_isSo_413  (post : Int32 → Mem → Prop)  (x2 : Int32) (x4 : Int32) (σ : Mem) : Prop := ((x2 = 0 → (q_L_isSo_432 post) (σ)) ∧ (¬ (x2 = 0) → (q_X5_house (fun (r22002 : Int32) (σ22003 : Mem) => ((r22002 ≠ (-1) → (q_L_isSo_436 post) (σ22003)) ∧ (r22002 = (-1) → ((x4 ≠ 0 → (q_L_isSo_436 post) (σ22003)) ∧ (x4 = 0 → (q_L_isSo_432 post) (σ22003)))))) (fun _ _ => False) 7 (σ))))
def q_L_isSo_363  (post : Int32 → Mem → Prop)  (x2 : Int32) (x3 : Int32) (x4 : Int32) (x5 : Int32) (x6 : Int32) (σ : Mem) : Prop := (q_X5_house (fun (r21001 : Int32) (σ21002 : Mem) => ((r21001 ≠ x3 → (q_L_isSo_436 post) (σ21002)) ∧ (r21001 = x3 → (q_X5_house (fun (r21004 : Int32) (σ21005 : Mem) => ((r21004 ≠ x4 → (q_L_isSo_436 post) (σ21005)) ∧ (r21004 = x4 → (q_X5_house (fun (r21007 : Int32) (σ21008 : Mem) => ((r21007 ≠ x6 → (q_L_isSo_436 post) (σ21008)) ∧ (r21007 = x6 → (q_X5_house (fun (r21010 : Int32) (σ21011 : Mem) => ((r21010 < 0 → (q_L_isSo_413 post) x2 x4 (σ21011)) ∧ (¬ (r21010 < 0) → (q_X5_house (fun (r21013 : Int32) (σ21014 : Mem) => ((r21013 ≠ x5 → (q_L_isSo_436 post) (σ21014)) ∧ (r21013 = x5 → (q_L_isSo_413 post) x2 x4 (σ21014)))) (fun _ _ => False) 7 (σ21011))))) (fun _ _ => False) 7 (σ21008))))) (fun _ _ => False) 6 (σ21005))))) (fun _ _ => False) 4 (σ21002))))) (fun _ _ => False) 2 (σ))
def q_L_isSo_355  (post : Int32 → Mem → Prop)  (σ : Mem) : Prop := post 0 (σ)
def q_L_isSo_325  (post : Int32 → Mem → Prop) (kE_355 : Mem → Prop) (kE_363 : Int32 → Int32 → Int32 → Int32 → Int32 → Mem → Prop) (kc_242 : Int32 → Int32 → Int32 → Int32 → Int32 → Int32 → Int32 → Mem → Prop) (s0 : Int32) (s1 : Int32) (x1 : Int32) (x2 : Int32) (x3 : Int32) (x4 : Int32) (x5 : Int32) (x7 : Int32) (x9 : Int32) (σ : Mem) : Prop := (∀ v19001 : Int32, v19001 = (s1 + s0) → (q_X5_ofMachine (fun (r19002 : Int32) (σ19003 : Mem) => ((r19002 ≠ x9 → kE_355 (σ19003)) ∧ (r19002 = x9 → (q_X5_ofMachine (fun (r19005 : Int32) (σ19006 : Mem) => (q_J6_bitCount_0f7a4 (fun (r19007 : Int32) (σ19008 : Mem) => ((r19005 = r19007 → (∀ v19010 : Int32, v19010 = x7 + 1 → kc_242 x1 x2 x3 x4 x5 v19001 v19010 (σ19006))) ∧ (¬ (r19005 = r19007) → kE_355 (σ19006)))) x9 (σ19006))) (fun _ _ => False) x7 1 (σ19003))))) (fun _ _ => False) x7 2 (σ)))
def q_L_isSo_313  (post : Int32 → Mem → Prop) (kE_355 : Mem → Prop) (kE_363 : Int32 → Int32 → Int32 → Int32 → Int32 → Mem → Prop) (kc_242 : Int32 → Int32 → Int32 → Int32 → Int32 → Int32 → Int32 → Mem → Prop) (x1 : Int32) (x2 : Int32) (x3 : Int32) (x4 : Int32) (x5 : Int32) (x6 : Int32) (x7 : Int32) (x9 : Int32) (σ : Mem) : Prop := ((x9 ≤ 0 → (q_L_isSo_325 post kE_355 kE_363 kc_242) 0 x6 x1 x2 x3 x4 x5 x7 x9 (σ)) ∧ (¬ (x9 ≤ 0) → (q_L_isSo_325 post kE_355 kE_363 kc_242) 1 x6 x1 x2 x3 x4 x5 x7 x9 (σ)))
def q_L_isSo_304  (post : Int32 → Mem → Prop) (kE_313 : Int32 → Int32 → Int32 → Int32 → Int32 → Int32 → Int32 → Int32 → Mem → Prop) (kc_264 : Int32 → Int32 → Int32 → Int32 → Int32 → Int32 → Int32 → Int32 → Int32 → Int32 → Mem → Prop) (s0 : Int32) (s1 : Int32) (x1 : Int32) (x2 : Int32) (x3 : Int32) (x4 : Int32) (x5 : Int32) (x6 : Int32) (x7 : Int32) (x8 : Int32) (x10 : Int32) (σ : Mem) : Prop := (∀ v17001 : Int32, v17001 = (s1 ||| s0) → (∀ v17002 : Int32, v17002 = x10 + 1 → kc_264 x1 x2 x3 x4 x5 x6 x7 x8 v17001 v17002 (σ)))
def q_L_isSo_303  (post : Int32 → Mem → Prop) (kE_313 : Int32 → Int32 → Int32 → Int32 → Int32 → Int32 → Int32 → Int32 → Mem → Prop) (kc_264 : Int32 → Int32 → Int32 → Int32 → Int32 → Int32 → Int32 → Int32 → Int32 → Int32 → Mem → Prop) (s0 : Int32) (x1 : Int32) (x2 : Int32) (x3 : Int32) (x4 : Int32) (x5 : Int32) (x6 : Int32) (x7 : Int32) (x8 : Int32) (x10 : Int32) (σ : Mem) : Prop := (q_L_isSo_304 post kE_313 kc_264) 0 s0 x1 x2 x3 x4 x5 x6 x7 x8 x10 (σ)
def q_L_isSo_264  (post : Int32 → Mem → Prop) (kE_313 : Int32 → Int32 → Int32 → Int32 → Int32 → Int32 → Int32 → Int32 → Mem → Prop) (kc_264 : Int32 → Int32 → Int32 → Int32 → Int32 → Int32 → Int32 → Int32 → Int32 → Int32 → Mem → Prop) (x1 : Int32) (x2 : Int32) (x3 : Int32) (x4 : Int32) (x5 : Int32) (x6 : Int32) (x7 : Int32) (x8 : Int32) (x9 : Int32) (x10 : Int32) (σ : Mem) : Prop := ((x1 ≤ x10 → kE_313 x1 x2 x3 x4 x5 x6 x7 x9 (σ)) ∧ (¬ (x1 ≤ x10) → ((x8 < 0 → (q_L_isSo_303 post kE_313 kc_264) x9 x1 x2 x3 x4 x5 x6 x7 x8 x10 (σ)) ∧ (¬ (x8 < 0) → (q_X5_has (fun (r15003 : Int32) (σ15004 : Mem) => (q_X5_ofCommit (fun (r15005 : Int32) (σ15006 : Mem) => ((r15003 = r15005 → (q_L_isSo_303 post kE_313 kc_264) x9 x1 x2 x3 x4 x5 x6 x7 x8 x10 (σ15006)) ∧ (¬ (r15003 = r15005) → (q_L_isSo_304 post kE_313 kc_264) ((1 : Int32) <<< (x10 &&& 31)) x9 x1 x2 x3 x4 x5 x6 x7 x8 x10 (σ15006)))) (fun _ _ => False) x8 x10 (σ15004))) (fun _ _ => False) x7 x10 (σ))))))
def q_L_isSo_242  (post : Int32 → Mem → Prop) (kE_355 : Mem → Prop) (kE_363 : Int32 → Int32 → Int32 → Int32 → Int32 → Mem → Prop) (kc_242 : Int32 → Int32 → Int32 → Int32 → Int32 → Int32 → Int32 → Mem → Prop) (x1 : Int32) (x2 : Int32) (x3 : Int32) (x4 : Int32) (x5 : Int32) (x6 : Int32) (x7 : Int32) (σ : Mem) : Prop := ((6 ≤ x7 → kE_363 x2 x3 x4 x5 x6 (σ)) ∧ (¬ (6 ≤ x7) → (q_X5_ofMachine (fun (r14002 : Int32) (σ14003 : Mem) => (∃ n9 : Nat, lp_11 (q_L_isSo_264 post (q_L_isSo_313 post kE_355 kE_363 kc_242)) n9 x1 x2 x3 x4 x5 x6 x7 r14002 0 0 (σ14003))) (fun _ _ => False) x7 0 (σ))))
def q_L_isSo_236  (post : Int32 → Mem → Prop)  (x1 : Int32) (x2 : Int32) (x3 : Int32) (x4 : Int32) (x5 : Int32) (σ : Mem) : Prop := (∃ n9 : Nat, lp_8 (q_L_isSo_242 post (q_L_isSo_355 post) (q_L_isSo_363 post)) n9 x1 x2 x3 x4 x5 0 0 (σ))
def q_L_isSo_228  (post : Int32 → Mem → Prop)  (σ : Mem) : Prop := post 0 (σ)
def q_L_isSo_210  (post : Int32 → Mem → Prop) (kE_228 : Mem → Prop) (kE_236 : Int32 → Int32 → Int32 → Int32 → Int32 → Mem → Prop) (kc_61 : Int32 → Int32 → Int32 → Int32 → Int32 → Int32 → Mem → Prop) (s0 : Int32) (s1 : Int32) (x1 : Int32) (x2 : Int32) (x3 : Int32) (x4 : Int32) (x5 : Int32) (x6 : Int32) (x7 : Int32) (σ : Mem) : Prop := ((s1 ≠ s0 → kE_228 (σ)) ∧ (s1 = s0 → (q_X5_ofField (fun (r11002 : Int32) (σ11003 : Mem) => (q_J6_bitCount_0f7a4 (fun (r11004 : Int32) (σ11005 : Mem) => ((r11002 = r11004 → (∀ v11007 : Int32, v11007 = x6 + 1 → kc_61 x1 x2 x3 x4 x5 v11007 (σ11003))) ∧ (¬ (r11002 = r11004) → kE_228 (σ11003)))) x7 (σ11003))) (fun _ _ => False) x6 2 (σ))))
def q_L_isSo_196  (post : Int32 → Mem → Prop) (kE_228 : Mem → Prop) (kE_236 : Int32 → Int32 → Int32 → Int32 → Int32 → Mem → Prop) (kc_61 : Int32 → Int32 → Int32 → Int32 → Int32 → Int32 → Mem → Prop) (s0 : Int32) (x1 : Int32) (x2 : Int32) (x3 : Int32) (x4 : Int32) (x5 : Int32) (x6 : Int32) (x7 : Int32) (σ : Mem) : Prop := (q_X5_house (fun (r10001 : Int32) (σ10002 : Mem) => ((r10001 < 0 → (q_L_isSo_210 post kE_228 kE_236 kc_61) 0 s0 x1 x2 x3 x4 x5 x6 x7 (σ10002)) ∧ (¬ (r10001 < 0) → (q_L_isSo_210 post kE_228 kE_236 kc_61) 1 s0 x1 x2 x3 x4 x5 x6 x7 (σ10002)))) (fun _ _ => False) 7 (σ))
def q_L_isSo_186  (post : Int32 → Mem → Prop) (kE_228 : Mem → Prop) (kE_236 : Int32 → Int32 → Int32 → Int32 → Int32 → Mem → Prop) (kc_61 : Int32 → Int32 → Int32 → Int32 → Int32 → Int32 → Mem → Prop) (x1 : Int32) (x2 : Int32) (x3 : Int32) (x4 : Int32) (x5 : Int32) (x6 : Int32) (x7 : Int32) (x9 : Int32) (σ : Mem) : Prop := ((x9 < 0 → (q_L_isSo_196 post kE_228 kE_236 kc_61) 0 x1 x2 x3 x4 x5 x6 x7 (σ)) ∧ (¬ (x9 < 0) → (q_L_isSo_196 post kE_228 kE_236 kc_61) 1 x1 x2 x3 x4 x5 x6 x7 (σ)))
def q_L_isSo_171  (post : Int32 → Mem → Prop) (kE_228 : Mem → Prop) (kE_236 : Int32 → Int32 → Int32 → Int32 → Int32 → Mem → Prop) (kc_61 : Int32 → Int32 → Int32 → Int32 → Int32 → Int32 → Mem → Prop) (x1 : Int32) (x2 : Int32) (x3 : Int32) (x4 : Int32) (x5 : Int32) (x6 : Int32) (x7 : Int32) (x9 : Int32) (σ : Mem) : Prop := ((x9 < 0 → (q_L_isSo_186 post kE_228 kE_236 kc_61) x1 x2 x3 x4 x5 x6 x7 x9 (σ)) ∧ (¬ (x9 < 0) → ((((x7 >>> (x9 &&& 31)) &&& 1) = 0 → kE_228 (σ)) ∧ (¬ (((x7 >>> (x9 &&& 31)) &&& 1) = 0) → (q_L_isSo_186 post kE_228 kE_236 kc_61) x1 x2 x3 x4 x5 x6 x7 x9 (σ)))))
def q_L_isSo_157  (post : Int32 → Mem → Prop) (kE_228 : Mem → Prop) (kE_236 : Int32 → Int32 → Int32 → Int32 → Int32 → Mem → Prop) (kc_61 : Int32 → Int32 → Int32 → Int32 → Int32 → Int32 → Mem → Prop) (x1 : Int32) (x2 : Int32) (x3 : Int32) (x4 : Int32) (x5 : Int32) (x6 : Int32) (x7 : Int32) (x8 : Int32) (x9 : Int32) (σ : Mem) : Prop := (q_J6_bitCount_0f7a4 (fun (r7001 : Int32) (σ7002 : Mem) => ((r7001 ≠ 1 → (q_L_isSo_171 post kE_228 kE_236 kc_61) x1 x2 x3 x4 x5 x6 x7 x9 (σ)) ∧ (r7001 = 1 → ((x8 < 0 → kE_228 (σ)) ∧ (¬ (x8 < 0) → (q_L_isSo_171 post kE_228 kE_236 kc_61) x1 x2 x3 x4 x5 x6 x7 x9 (σ)))))) x7 (σ))
def q_L_isSo_138  (post : Int32 → Mem → Prop) (kE_228 : Mem → Prop) (kE_236 : Int32 → Int32 → Int32 → Int32 → Int32 → Mem → Prop) (kc_61 : Int32 → Int32 → Int32 → Int32 → Int32 → Int32 → Mem → Prop) (s0 : Int32) (x1 : Int32) (x2 : Int32) (x3 : Int32) (x4 : Int32) (x5 : Int32) (x6 : Int32) (x7 : Int32) (x8 : Int32) (x9 : Int32) (σ : Mem) : Prop := ((s0 ≠ x2 → kE_228 (σ)) ∧ (s0 = x2 → ((x8 < 0 → (q_L_isSo_157 post kE_228 kE_236 kc_61) x1 x2 x3 x4 x5 x6 x7 x8 x9 (σ)) ∧ (¬ (x8 < 0) → ((((x7 >>> (x8 &&& 31)) &&& 1) = 0 → kE_228 (σ)) ∧ (¬ (((x7 >>> (x8 &&& 31)) &&& 1) = 0) → (q_L_isSo_157 post kE_228 kE_236 kc_61) x1 x2 x3 x4 x5 x6 x7 x8 x9 (σ)))))))
def q_L_isSo_106  (post : Int32 → Mem → Prop) (kE_228 : Mem → Prop) (kE_236 : Int32 → Int32 → Int32 → Int32 → Int32 → Mem → Prop) (kc_61 : Int32 → Int32 → Int32 → Int32 → Int32 → Int32 → Mem → Prop) (s0 : Int32) (s1 : Int32) (x1 : Int32) (x2 : Int32) (x3 : Int32) (x5 : Int32) (x6 : Int32) (x7 : Int32) (x8 : Int32) (x9 : Int32) (σ : Mem) : Prop := (∀ v5001 : Int32, v5001 = (s1 + s0) → (q_X5_ofField (fun (r5002 : Int32) (σ5003 : Mem) => (∀ v5004 : Int32, v5004 = (x5 + (r5002 * (if (0 : Int32) < x9 then x9 else 0))) → ((x7 ≠ 0 → (q_L_isSo_138 post kE_228 kE_236 kc_61) 0 x1 x2 x3 v5001 v5004 x6 x7 x8 x9 (σ5003)) ∧ (x7 = 0 → (q_L_isSo_138 post kE_228 kE_236 kc_61) 1 x1 x2 x3 v5001 v5004 x6 x7 x8 x9 (σ5003))))) (fun _ _ => False) x6 4 (σ)))
def q_L_isSo_61  (post : Int32 → Mem → Prop) (kE_228 : Mem → Prop) (kE_236 : Int32 → Int32 → Int32 → Int32 → Int32 → Mem → Prop) (kc_61 : Int32 → Int32 → Int32 → Int32 → Int32 → Int32 → Mem → Prop) (x1 : Int32) (x2 : Int32) (x3 : Int32) (x4 : Int32) (x5 : Int32) (x6 : Int32) (σ : Mem) : Prop := ((x1 ≤ x6 → kE_236 x1 x2 x3 x4 x5 (σ)) ∧ (¬ (x1 ≤ x6) → (q_X5_ofField (fun (r4002 : Int32) (σ4003 : Mem) => (q_X5_ofField (fun (r4004 : Int32) (σ4005 : Mem) => (q_X5_ofField (fun (r4006 : Int32) (σ4007 : Mem) => ((r4004 < 0 → (q_L_isSo_106 post kE_228 kE_236 kc_61) 0 x4 x1 x2 x3 x5 x6 r4002 r4004 r4006 (σ4007)) ∧ (¬ (r4004 < 0) → (q_L_isSo_106 post kE_228 kE_236 kc_61) 1 x4 x1 x2 x3 x5 x6 r4002 r4004 r4006 (σ4007)))) (fun _ _ => False) x6 5 (σ4005))) (fun _ _ => False) x6 3 (σ4003))) (fun _ _ => False) x6 1 (σ))))
def q_L_isSo_58  (post : Int32 → Mem → Prop)  (x1 : Int32) (x2 : Int32) (x3 : Int32) (x4 : Int32) (x5 : Int32) (σ : Mem) : Prop := (∃ n9 : Nat, lp_7 (q_L_isSo_61 post (q_L_isSo_228 post) (q_L_isSo_236 post)) n9 x1 x2 x3 x4 x5 0 (σ))
def q_L_isSo_32  (post : Int32 → Mem → Prop) (kE_58 : Int32 → Int32 → Int32 → Int32 → Int32 → Mem → Prop) (kc_32 : Int32 → Int32 → Int32 → Int32 → Int32 → Int32 → Mem → Prop) (x1 : Int32) (x2 : Int32) (x3 : Int32) (x4 : Int32) (x5 : Int32) (x6 : Int32) (σ : Mem) : Prop := (q_X5_house (fun (r2001 : Int32) (σ2002 : Mem) => ((r2001 ≤ x6 → kE_58 x1 x2 x3 x4 x5 (σ2002)) ∧ (¬ (r2001 ≤ x6) → (q_X5_ofLine (fun (r2004 : Int32) (σ2005 : Mem) => (∀ v2006 : Int32, v2006 = (x3 + r2004) → (∀ v2007 : Int32, v2007 = x6 + 1 → kc_32 x1 x2 v2006 x4 x5 v2007 (σ2005)))) (fun _ _ => False) x6 5 (σ2002))))) (fun _ _ => False) 1 (σ))
def q_L_isSo_20  (post : Int32 → Mem → Prop)  (s0 : Int32) (x1 : Int32) (σ : Mem) : Prop := (∃ n9 : Nat, lp_7 (q_L_isSo_32 post (q_L_isSo_58 post)) n9 x1 s0 0 0 0 0 (σ))
def q_L_isSo  (post : Int32 → Mem → Prop) (σ : Mem) : Prop := (q_X5_house (fun (r1 : Int32) (σ2 : Mem) => (q_X5_house (fun (r3 : Int32) (σ4 : Mem) => ((r3 ≠ 1 → (q_L_isSo_20 post) 0 r1 (σ4)) ∧ (r3 = 1 → (q_L_isSo_20 post) 1 r1 (σ4)))) (fun _ _ => False) 3 (σ2))) (fun _ _ => False) 0 (σ))
abbrev rm_L_isSo : Room := { frames := 7, cells := 0, slots := 0, locals := 222 }
abbrev wq_L_isSo : List Cond := Cond.code yL_isSo cL_isSo 11 (some .boolean) :: wLAW
set_option maxHeartbeats 4000000 in
set_option maxRecDepth 100000 in
theorem c_L_isSo (l : Launch) (D : va_G) (k ad : Nat → Nat) {sz : Nat} {σ : Mem} {post : Int32 → Mem → Prop} (hp : q_L_isSo post σ) : Met l yL_isSo wq_L_isSo rm_L_isSo (va_Pc [.ref (ad 0)] (Pw D k (W5 k ad (σ)) sz)) (va_Qi post (fun u => Bw D (W5 k ad (σ)) sz (W5 k ad u)) (va_A (W5 k ad (σ)) sz)) 0 0 (va_A (W5 k ad (σ)) sz) := by
  refine fw_i (wf := fun u : Mem => W5 k ad u) (by decide) rfl (Nat.le_of_ble_eq_true rfl) ?_
  intro p e s m args below meth c A Q ls hC hP hD hl hret
  obtain ⟨⟨hx, hb, hml, hown, hts⟩, hG, hA⟩ := id hC
  have hK := hG.1
  have hS : va_S A s.heap s.heap [] := va_S.rf
  have hl : lv_has ls 11 [(0, .ref (ad 0))] := hl
  have hown : s.vm.findClass RL = some m.cls := hown
  unfold q_L_isSo at hp
  have B_437 : ∀ (s0 : Int32) (σ : Mem) (H : Heap) (locs : List Loc) (ls : Array Slot), va_P D vwCl (W5 k ad (σ)) H → va_D A (W5 k ad (σ)) → va_S A s.heap H locs → lv_has ls 11 [] → (q_L_isSo_437 post) s0 σ → W p l e rm_L_isSo s m args below meth c H locs 0 0 Q (F0 m 437 ls [.int s0]) := by
    intro s0 σ H locs ls hP hD hS hl hp
    unfold q_L_isSo_437 at hp
    exact hret s0 (σ) _ _ _ _ _ _ dL_isSo_437 hp.1.1 hP hD hS (Nat.le_of_ble_eq_true rfl) (Nat.le_of_ble_eq_true rfl) hp.2
  have B_436 : ∀  (σ : Mem) (H : Heap) (locs : List Loc) (ls : Array Slot), va_P D vwCl (W5 k ad (σ)) H → va_D A (W5 k ad (σ)) → va_S A s.heap H locs → lv_has ls 11 [] → (q_L_isSo_436 post)  σ → W p l e rm_L_isSo s m args below meth c H locs 0 0 Q (F0 m 436 ls []) := by
    intro  σ H locs ls hP hD hS hl hp
    unfold q_L_isSo_436 at hp
    refine lv_iconst (v := 0) hx hb dL_isSo_436 (by decide) ?_
    exact B_437 0 (σ) _ _ _  hP hD hS (lv_sub hl [] rfl) hp
  have B_432 : ∀  (σ : Mem) (H : Heap) (locs : List Loc) (ls : Array Slot), va_P D vwCl (W5 k ad (σ)) H → va_D A (W5 k ad (σ)) → va_S A s.heap H locs → lv_has ls 11 [] → (q_L_isSo_432 post)  σ → W p l e rm_L_isSo s m args below meth c H locs 0 0 Q (F0 m 432 ls []) := by
    intro  σ H locs ls hP hD hS hl hp
    unfold q_L_isSo_432 at hp
    refine lv_iconst (v := 1) hx hb dL_isSo_432 (by decide) ?_
    refine lv_goto (tgt := 437) hx hb dL_isSo_433 (by decide) ?_
    exact B_437 1 (σ) _ _ _  hP hD hS (lv_sub hl [] rfl) hp
  have B_413 : ∀ (x2 : Int32) (x4 : Int32) (σ : Mem) (H : Heap) (locs : List Loc) (ls : Array Slot), va_P D vwCl (W5 k ad (σ)) H → va_D A (W5 k ad (σ)) → va_S A s.heap H locs → lv_has ls 11 [(0, .ref (ad 0)), (2, .int x2), (4, .int x4)] → (q_L_isSo_413 post) x2 x4 σ → W p l e rm_L_isSo s m args below meth c H locs 0 0 Q (F0 m 413 ls []) := by
    intro x2 x4 σ H locs ls hP hD hS hl hp
    unfold q_L_isSo_413 at hp
    refine lv_iload_n hx hb dL_isSo_413 rfl (lv_at hl 1 rfl) ?_
    refine lv_if_eq (tgt := 432) hx hb dL_isSo_414 (by decide) (fun c220001 => ?_) (fun c220001 => ?_)
    · have hp := hp.1 c220001
      exact B_432  (σ) _ _ _  hP hD hS (lv_sub hl [] rfl) hp
    · have hp := hp.2 c220001
      refine lv_aload_n hx hb dL_isSo_417 rfl (lv_at hl 0 rfl) ?_
      refine lv_bipush (v := 7) hx hb dL_isSo_418 (by decide) ?_
      refine fw_ciV (As := [.int 7]) (rest := []) hC (c0_X5_house l D k ad hp) (cwV 1 hts (gB_V B_5 (iB_A _ A_318) (iB_A _ A_319) (iB_A _ A_25) (iB_A _ A_298)) rfl rfl rfl (by decide +kernel) ⟨Nat.le_of_ble_eq_true rfl, Nat.le_of_ble_eq_true rfl⟩) (va_recv hK hP (ci := 5) (q0 := 0) rfl rfl) rfl hl.1 rfl (Nat.le_of_ble_eq_true rfl) dL_isSo_420 ⟨Nat.le_of_ble_eq_true rfl, Nat.le_of_ble_eq_true rfl⟩ hP hD hS Jn.same (fun r220002 σ220003 H locs hP hD hS hp => ?_)
      have hP : va_P D vwCl (W5 k ad (σ220003)) H := hP
      have hD : va_D A (W5 k ad (σ220003)) := hD
      refine lv_iconst (v := (-1)) hx hb dL_isSo_423 (by decide) ?_
      refine lv_icmp_ne (tgt := 436) hx hb dL_isSo_424 (by decide) (fun c220004 => ?_) (fun c220004 => ?_)
      · have hp := hp.1 c220004
        exact B_436  (σ220003) _ _ _  hP hD hS (lv_sub hl [] rfl) hp
      · have hp := hp.2 c220004
        refine lv_iload hx hb dL_isSo_427 (lv_at hl 2 rfl) ?_
        refine lv_if_ne (tgt := 436) hx hb dL_isSo_429 (by decide) (fun c220005 => ?_) (fun c220005 => ?_)
        · have hp := hp.1 c220005
          exact B_436  (σ220003) _ _ _  hP hD hS (lv_sub hl [] rfl) hp
        · have hp := hp.2 c220005
          exact B_432  (σ220003) _ _ _  hP hD hS (lv_sub hl [] rfl) hp
  have B_363 : ∀ (x2 : Int32) (x3 : Int32) (x4 : Int32) (x5 : Int32) (x6 : Int32) (σ : Mem) (H : Heap) (locs : List Loc) (ls : Array Slot), va_P D vwCl (W5 k ad (σ)) H → va_D A (W5 k ad (σ)) → va_S A s.heap H locs → lv_has ls 11 [(0, .ref (ad 0)), (2, .int x2), (3, .int x3), (4, .int x4), (5, .int x5), (6, .int x6)] → (q_L_isSo_363 post) x2 x3 x4 x5 x6 σ → W p l e rm_L_isSo s m args below meth c H locs 0 0 Q (F0 m 363 ls []) := by
    intro x2 x3 x4 x5 x6 σ H locs ls hP hD hS hl hp
    unfold q_L_isSo_363 at hp
    refine lv_aload_n hx hb dL_isSo_363 rfl (lv_at hl 0 rfl) ?_
    refine lv_iconst (v := 2) hx hb dL_isSo_364 (by decide) ?_
    refine fw_ciV (As := [.int 2]) (rest := []) hC (c0_X5_house l D k ad hp) (cwV 1 hts (gB_V B_5 (iB_A _ A_318) (iB_A _ A_319) (iB_A _ A_25) (iB_A _ A_298)) rfl rfl rfl (by decide +kernel) ⟨Nat.le_of_ble_eq_true rfl, Nat.le_of_ble_eq_true rfl⟩) (va_recv hK hP (ci := 5) (q0 := 0) rfl rfl) rfl hl.1 rfl (Nat.le_of_ble_eq_true rfl) dL_isSo_365 ⟨Nat.le_of_ble_eq_true rfl, Nat.le_of_ble_eq_true rfl⟩ hP hD hS Jn.same (fun r210001 σ210002 H locs hP hD hS hp => ?_)
    have hP : va_P D vwCl (W5 k ad (σ210002)) H := hP
    have hD : va_D A (W5 k ad (σ210002)) := hD
    refine lv_iload_n hx hb dL_isSo_368 rfl (lv_at hl 2 rfl) ?_
    refine lv_icmp_ne (tgt := 436) hx hb dL_isSo_369 (by decide) (fun c210003 => ?_) (fun c210003 => ?_)
    · have hp := hp.1 c210003
      exact B_436  (σ210002) _ _ _  hP hD hS (lv_sub hl [] rfl) hp
    · have hp := hp.2 c210003
      refine lv_aload_n hx hb dL_isSo_372 rfl (lv_at hl 0 rfl) ?_
      refine lv_iconst (v := 4) hx hb dL_isSo_373 (by decide) ?_
      refine fw_ciV (As := [.int 4]) (rest := []) hC (c0_X5_house l D k ad hp) (cwV 1 hts (gB_V B_5 (iB_A _ A_318) (iB_A _ A_319) (iB_A _ A_25) (iB_A _ A_298)) rfl rfl rfl (by decide +kernel) ⟨Nat.le_of_ble_eq_true rfl, Nat.le_of_ble_eq_true rfl⟩) (va_recv hK hP (ci := 5) (q0 := 0) rfl rfl) rfl hl.1 rfl (Nat.le_of_ble_eq_true rfl) dL_isSo_374 ⟨Nat.le_of_ble_eq_true rfl, Nat.le_of_ble_eq_true rfl⟩ hP hD hS Jn.same (fun r210004 σ210005 H locs hP hD hS hp => ?_)
      have hP : va_P D vwCl (W5 k ad (σ210005)) H := hP
      have hD : va_D A (W5 k ad (σ210005)) := hD
      refine lv_iload hx hb dL_isSo_377 (lv_at hl 3 rfl) ?_
      refine lv_icmp_ne (tgt := 436) hx hb dL_isSo_379 (by decide) (fun c210006 => ?_) (fun c210006 => ?_)
      · have hp := hp.1 c210006
        exact B_436  (σ210005) _ _ _  hP hD hS (lv_sub hl [] rfl) hp
      · have hp := hp.2 c210006
        refine lv_aload_n hx hb dL_isSo_382 rfl (lv_at hl 0 rfl) ?_
        refine lv_bipush (v := 6) hx hb dL_isSo_383 (by decide) ?_
        refine fw_ciV (As := [.int 6]) (rest := []) hC (c0_X5_house l D k ad hp) (cwV 1 hts (gB_V B_5 (iB_A _ A_318) (iB_A _ A_319) (iB_A _ A_25) (iB_A _ A_298)) rfl rfl rfl (by decide +kernel) ⟨Nat.le_of_ble_eq_true rfl, Nat.le_of_ble_eq_true rfl⟩) (va_recv hK hP (ci := 5) (q0 := 0) rfl rfl) rfl hl.1 rfl (Nat.le_of_ble_eq_true rfl) dL_isSo_385 ⟨Nat.le_of_ble_eq_true rfl, Nat.le_of_ble_eq_true rfl⟩ hP hD hS Jn.same (fun r210007 σ210008 H locs hP hD hS hp => ?_)
        have hP : va_P D vwCl (W5 k ad (σ210008)) H := hP
        have hD : va_D A (W5 k ad (σ210008)) := hD
        refine lv_iload hx hb dL_isSo_388 (lv_at hl 5 rfl) ?_
        refine lv_icmp_ne (tgt := 436) hx hb dL_isSo_390 (by decide) (fun c210009 => ?_) (fun c210009 => ?_)
        · have hp := hp.1 c210009
          exact B_436  (σ210008) _ _ _  hP hD hS (lv_sub hl [] rfl) hp
        · have hp := hp.2 c210009
          refine lv_aload_n hx hb dL_isSo_393 rfl (lv_at hl 0 rfl) ?_
          refine lv_bipush (v := 7) hx hb dL_isSo_394 (by decide) ?_
          refine fw_ciV (As := [.int 7]) (rest := []) hC (c0_X5_house l D k ad hp) (cwV 1 hts (gB_V B_5 (iB_A _ A_318) (iB_A _ A_319) (iB_A _ A_25) (iB_A _ A_298)) rfl rfl rfl (by decide +kernel) ⟨Nat.le_of_ble_eq_true rfl, Nat.le_of_ble_eq_true rfl⟩) (va_recv hK hP (ci := 5) (q0 := 0) rfl rfl) rfl hl.1 rfl (Nat.le_of_ble_eq_true rfl) dL_isSo_396 ⟨Nat.le_of_ble_eq_true rfl, Nat.le_of_ble_eq_true rfl⟩ hP hD hS Jn.same (fun r210010 σ210011 H locs hP hD hS hp => ?_)
          have hP : va_P D vwCl (W5 k ad (σ210011)) H := hP
          have hD : va_D A (W5 k ad (σ210011)) := hD
          refine lv_if_lt (tgt := 413) hx hb dL_isSo_399 (by decide) (fun c210012 => ?_) (fun c210012 => ?_)
          · have hp := hp.1 c210012
            exact B_413 x2 x4 (σ210011) _ _ _  hP hD hS (lv_sub hl [0, 1, 3] rfl) hp
          · have hp := hp.2 c210012
            refine lv_aload_n hx hb dL_isSo_402 rfl (lv_at hl 0 rfl) ?_
            refine lv_bipush (v := 7) hx hb dL_isSo_403 (by decide) ?_
            refine fw_ciV (As := [.int 7]) (rest := []) hC (c0_X5_house l D k ad hp) (cwV 1 hts (gB_V B_5 (iB_A _ A_318) (iB_A _ A_319) (iB_A _ A_25) (iB_A _ A_298)) rfl rfl rfl (by decide +kernel) ⟨Nat.le_of_ble_eq_true rfl, Nat.le_of_ble_eq_true rfl⟩) (va_recv hK hP (ci := 5) (q0 := 0) rfl rfl) rfl hl.1 rfl (Nat.le_of_ble_eq_true rfl) dL_isSo_405 ⟨Nat.le_of_ble_eq_true rfl, Nat.le_of_ble_eq_true rfl⟩ hP hD hS Jn.same (fun r210013 σ210014 H locs hP hD hS hp => ?_)
            have hP : va_P D vwCl (W5 k ad (σ210014)) H := hP
            have hD : va_D A (W5 k ad (σ210014)) := hD
            refine lv_iload hx hb dL_isSo_408 (lv_at hl 4 rfl) ?_
            refine lv_icmp_ne (tgt := 436) hx hb dL_isSo_410 (by decide) (fun c210015 => ?_) (fun c210015 => ?_)
            · have hp := hp.1 c210015
              exact B_436  (σ210014) _ _ _  hP hD hS (lv_sub hl [] rfl) hp
            · have hp := hp.2 c210015
              exact B_413 x2 x4 (σ210014) _ _ _  hP hD hS (lv_sub hl [0, 1, 3] rfl) hp
  have B_355 : ∀  (σ : Mem) (H : Heap) (locs : List Loc) (ls : Array Slot), va_P D vwCl (W5 k ad (σ)) H → va_D A (W5 k ad (σ)) → va_S A s.heap H locs → lv_has ls 11 [] → (q_L_isSo_355 post)  σ → W p l e rm_L_isSo s m args below meth c H locs 0 0 Q (F0 m 355 ls []) := by
    intro  σ H locs ls hP hD hS hl hp
    unfold q_L_isSo_355 at hp
    refine lv_iconst (v := 0) hx hb dL_isSo_355 (by decide) ?_
    exact hret 0 (σ) _ _ _ _ _ _ dL_isSo_356 (by decide) hP hD hS (Nat.le_of_ble_eq_true rfl) (Nat.le_of_ble_eq_true rfl) hp
  have B_242 : ∀ (n_242 : Nat) (x1 : Int32) (x2 : Int32) (x3 : Int32) (x4 : Int32) (x5 : Int32) (x6 : Int32) (x7 : Int32) (σ : Mem) (H : Heap) (locs : List Loc) (ls : Array Slot), va_P D vwCl (W5 k ad (σ)) H → va_D A (W5 k ad (σ)) → va_S A s.heap H locs → lv_has ls 11 [(0, .ref (ad 0)), (1, .int x1), (2, .int x2), (3, .int x3), (4, .int x4), (5, .int x5), (6, .int x6), (7, .int x7)] → lp_8 (q_L_isSo_242 post (q_L_isSo_355 post) (q_L_isSo_363 post)) n_242 x1 x2 x3 x4 x5 x6 x7 σ → W p l e rm_L_isSo s m args below meth c H locs 0 0 Q (F0 m 242 ls []) := by
    intro n_242
    induction n_242 with
    | zero => intro x1 x2 x3 x4 x5 x6 x7 σ H locs ls hP hD hS hl hp; exact hp.elim
    | succ n_242 ih_242 =>
      have B_325 : ∀ (s0 : Int32) (s1 : Int32) (x1 : Int32) (x2 : Int32) (x3 : Int32) (x4 : Int32) (x5 : Int32) (x7 : Int32) (x9 : Int32) (σ : Mem) (H : Heap) (locs : List Loc) (ls : Array Slot), va_P D vwCl (W5 k ad (σ)) H → va_D A (W5 k ad (σ)) → va_S A s.heap H locs → lv_has ls 11 [(0, .ref (ad 0)), (1, .int x1), (2, .int x2), (3, .int x3), (4, .int x4), (5, .int x5), (7, .int x7), (9, .int x9)] → (q_L_isSo_325 post (q_L_isSo_355 post) (q_L_isSo_363 post) (lp_8 (q_L_isSo_242 post (q_L_isSo_355 post) (q_L_isSo_363 post)) n_242)) s0 s1 x1 x2 x3 x4 x5 x7 x9 σ → W p l e rm_L_isSo s m args below meth c H locs 0 0 Q (F0 m 325 ls [.int s0, .int s1]) := by
        intro s0 s1 x1 x2 x3 x4 x5 x7 x9 σ H locs ls hP hD hS hl hp
        unfold q_L_isSo_325 at hp
        refine lv_iadd hx hb dL_isSo_325 ?_
        refine lv_topi (fun v190001 ev190001 => ?_)
        have hp := hp v190001 ev190001
        refine lv_istore (lv' := [(6, .int v190001), (0, .ref (ad 0)), (1, .int x1), (2, .int x2), (3, .int x3), (4, .int x4), (5, .int x5), (7, .int x7), (9, .int x9)]) hx hb dL_isSo_326 hl (by decide) rfl (fun ls hl => ?_)
        refine lv_aload_n hx hb dL_isSo_328 rfl (lv_at hl 1 rfl) ?_
        refine lv_iload hx hb dL_isSo_329 (lv_at hl 7 rfl) ?_
        refine lv_iconst (v := 2) hx hb dL_isSo_331 (by decide) ?_
        refine fw_ciV (As := [.int x7, .int 2]) (rest := []) hC (c0_X5_ofMachine l D k ad hp) (cwV 2 hts (gB_V B_66 (iB_A _ A_306) (iB_A _ A_307) (iB_A _ A_25) (iB_A _ A_284)) rfl rfl rfl (by decide +kernel) ⟨Nat.le_of_ble_eq_true rfl, Nat.le_of_ble_eq_true rfl⟩) (va_recv hK hP (ci := 5) (q0 := 0) rfl rfl) rfl hl.1 rfl (Nat.le_of_ble_eq_true rfl) dL_isSo_332 ⟨Nat.le_of_ble_eq_true rfl, Nat.le_of_ble_eq_true rfl⟩ hP hD hS Jn.same (fun r190002 σ190003 H locs hP hD hS hp => ?_)
        have hP : va_P D vwCl (W5 k ad (σ190003)) H := hP
        have hD : va_D A (W5 k ad (σ190003)) := hD
        refine lv_iload hx hb dL_isSo_335 (lv_at hl 8 rfl) ?_
        refine lv_icmp_ne (tgt := 355) hx hb dL_isSo_337 (by decide) (fun c190004 => ?_) (fun c190004 => ?_)
        · have hp := hp.1 c190004
          exact B_355  (σ190003) _ _ _  hP hD hS (lv_sub hl [] rfl) hp
        · have hp := hp.2 c190004
          refine lv_aload_n hx hb dL_isSo_340 rfl (lv_at hl 1 rfl) ?_
          refine lv_iload hx hb dL_isSo_341 (lv_at hl 7 rfl) ?_
          refine lv_iconst (v := 1) hx hb dL_isSo_343 (by decide) ?_
          refine fw_ciV (As := [.int x7, .int 1]) (rest := []) hC (c0_X5_ofMachine l D k ad hp) (cwV 2 hts (gB_V B_66 (iB_A _ A_306) (iB_A _ A_307) (iB_A _ A_25) (iB_A _ A_284)) rfl rfl rfl (by decide +kernel) ⟨Nat.le_of_ble_eq_true rfl, Nat.le_of_ble_eq_true rfl⟩) (va_recv hK hP (ci := 5) (q0 := 0) rfl rfl) rfl hl.1 rfl (Nat.le_of_ble_eq_true rfl) dL_isSo_344 ⟨Nat.le_of_ble_eq_true rfl, Nat.le_of_ble_eq_true rfl⟩ hP hD hS Jn.same (fun r190005 σ190006 H locs hP hD hS hp => ?_)
          have hP : va_P D vwCl (W5 k ad (σ190006)) H := hP
          have hD : va_D A (W5 k ad (σ190006)) := hD
          refine lv_iload hx hb dL_isSo_347 (lv_at hl 8 rfl) ?_
          refine fw_ciS (As := [.int x9]) (rest := [.int r190005]) hC (c_J6_bitCount_0f7a4 l D k hp) (va_cwS 1 hts (gB_S B_65 (iB_A _ A_144) (iB_A _ A_145) (iB_A _ A_136)) rfl rfl rfl (by decide +kernel) ⟨Nat.le_of_ble_eq_true rfl, Nat.le_of_ble_eq_true rfl⟩) rfl hl.1 rfl (Nat.le_of_ble_eq_true rfl) dL_isSo_349 ⟨Nat.le_of_ble_eq_true rfl, Nat.le_of_ble_eq_true rfl⟩ P_nil D_nil hS (Jn.pure (w0 := fun _ : Mem => []) hP hD) (fun r190007 σ190008 H locs hP hD hS hp => ?_)
          have hP : va_P D vwCl (W5 k ad (σ190006)) H := hP
          have hD : va_D A (W5 k ad (σ190006)) := hD
          refine lv_icmp_eq (tgt := 357) hx hb dL_isSo_352 (by decide) (fun c190009 => ?_) (fun c190009 => ?_)
          · have hp := hp.1 c190009
            obtain ⟨v190010, ev190010⟩ : ∃ z : Int32, z = x7 + 1 := ⟨_, rfl⟩
            have hp := hp v190010 ev190010
            refine lv_iinc (v := v190010) (lv' := [(7, .int v190010), (6, .int v190001), (0, .ref (ad 0)), (1, .int x1), (2, .int x2), (3, .int x3), (4, .int x4), (5, .int x5), (9, .int x9)]) hx hb dL_isSo_357 hl (k := 7) rfl (by rw [ev190010]; rfl) (by decide) rfl (fun ls hl => ?_)
            refine lv_goto (tgt := 242) hx hb dL_isSo_360 (by decide) ?_
            exact ih_242 x1 x2 x3 x4 x5 v190001 v190010 (σ190006) _ _ _  hP hD hS (lv_sub hl [2, 3, 4, 5, 6, 7, 1, 0] rfl) hp
          · have hp := hp.2 c190009
            exact B_355  (σ190006) _ _ _  hP hD hS (lv_sub hl [] rfl) hp
      have B_313 : ∀ (x1 : Int32) (x2 : Int32) (x3 : Int32) (x4 : Int32) (x5 : Int32) (x6 : Int32) (x7 : Int32) (x9 : Int32) (σ : Mem) (H : Heap) (locs : List Loc) (ls : Array Slot), va_P D vwCl (W5 k ad (σ)) H → va_D A (W5 k ad (σ)) → va_S A s.heap H locs → lv_has ls 11 [(0, .ref (ad 0)), (1, .int x1), (2, .int x2), (3, .int x3), (4, .int x4), (5, .int x5), (6, .int x6), (7, .int x7), (9, .int x9)] → (q_L_isSo_313 post (q_L_isSo_355 post) (q_L_isSo_363 post) (lp_8 (q_L_isSo_242 post (q_L_isSo_355 post) (q_L_isSo_363 post)) n_242)) x1 x2 x3 x4 x5 x6 x7 x9 σ → W p l e rm_L_isSo s m args below meth c H locs 0 0 Q (F0 m 313 ls []) := by
        intro x1 x2 x3 x4 x5 x6 x7 x9 σ H locs ls hP hD hS hl hp
        unfold q_L_isSo_313 at hp
        refine lv_iload hx hb dL_isSo_313 (lv_at hl 6 rfl) ?_
        refine lv_iload hx hb dL_isSo_315 (lv_at hl 8 rfl) ?_
        refine lv_if_le (tgt := 324) hx hb dL_isSo_317 (by decide) (fun c180001 => ?_) (fun c180001 => ?_)
        · have hp := hp.1 c180001
          refine lv_iconst (v := 0) hx hb dL_isSo_324 (by decide) ?_
          exact B_325 0 x6 x1 x2 x3 x4 x5 x7 x9 (σ) _ _ _  hP hD hS (lv_sub hl [0, 1, 2, 3, 4, 5, 7, 8] rfl) hp
        · have hp := hp.2 c180001
          refine lv_iconst (v := 1) hx hb dL_isSo_320 (by decide) ?_
          refine lv_goto (tgt := 325) hx hb dL_isSo_321 (by decide) ?_
          exact B_325 1 x6 x1 x2 x3 x4 x5 x7 x9 (σ) _ _ _  hP hD hS (lv_sub hl [0, 1, 2, 3, 4, 5, 7, 8] rfl) hp
      have B_264 : ∀ (n_264 : Nat) (x1 : Int32) (x2 : Int32) (x3 : Int32) (x4 : Int32) (x5 : Int32) (x6 : Int32) (x7 : Int32) (x8 : Int32) (x9 : Int32) (x10 : Int32) (σ : Mem) (H : Heap) (locs : List Loc) (ls : Array Slot), va_P D vwCl (W5 k ad (σ)) H → va_D A (W5 k ad (σ)) → va_S A s.heap H locs → lv_has ls 11 [(0, .ref (ad 0)), (1, .int x1), (2, .int x2), (3, .int x3), (4, .int x4), (5, .int x5), (6, .int x6), (7, .int x7), (8, .int x8), (9, .int x9), (10, .int x10)] → lp_11 (q_L_isSo_264 post (q_L_isSo_313 post (q_L_isSo_355 post) (q_L_isSo_363 post) (lp_8 (q_L_isSo_242 post (q_L_isSo_355 post) (q_L_isSo_363 post)) n_242))) n_264 x1 x2 x3 x4 x5 x6 x7 x8 x9 x10 σ → W p l e rm_L_isSo s m args below meth c H locs 0 0 Q (F0 m 264 ls []) := by
        intro n_264
        induction n_264 with
        | zero => intro x1 x2 x3 x4 x5 x6 x7 x8 x9 x10 σ H locs ls hP hD hS hl hp; exact hp.elim
        | succ n_264 ih_264 =>
          have B_304 : ∀ (s0 : Int32) (s1 : Int32) (x1 : Int32) (x2 : Int32) (x3 : Int32) (x4 : Int32) (x5 : Int32) (x6 : Int32) (x7 : Int32) (x8 : Int32) (x10 : Int32) (σ : Mem) (H : Heap) (locs : List Loc) (ls : Array Slot), va_P D vwCl (W5 k ad (σ)) H → va_D A (W5 k ad (σ)) → va_S A s.heap H locs → lv_has ls 11 [(0, .ref (ad 0)), (1, .int x1), (2, .int x2), (3, .int x3), (4, .int x4), (5, .int x5), (6, .int x6), (7, .int x7), (8, .int x8), (10, .int x10)] → (q_L_isSo_304 post (q_L_isSo_313 post (q_L_isSo_355 post) (q_L_isSo_363 post) (lp_8 (q_L_isSo_242 post (q_L_isSo_355 post) (q_L_isSo_363 post)) n_242)) (lp_11 (q_L_isSo_264 post (q_L_isSo_313 post (q_L_isSo_355 post) (q_L_isSo_363 post) (lp_8 (q_L_isSo_242 post (q_L_isSo_355 post) (q_L_isSo_363 post)) n_242))) n_264)) s0 s1 x1 x2 x3 x4 x5 x6 x7 x8 x10 σ → W p l e rm_L_isSo s m args below meth c H locs 0 0 Q (F0 m 304 ls [.int s0, .int s1]) := by
            intro s0 s1 x1 x2 x3 x4 x5 x6 x7 x8 x10 σ H locs ls hP hD hS hl hp
            unfold q_L_isSo_304 at hp
            refine lv_ior hx hb dL_isSo_304 ?_
            refine lv_topi (fun v170001 ev170001 => ?_)
            have hp := hp v170001 ev170001
            refine lv_istore (lv' := [(9, .int v170001), (0, .ref (ad 0)), (1, .int x1), (2, .int x2), (3, .int x3), (4, .int x4), (5, .int x5), (6, .int x6), (7, .int x7), (8, .int x8), (10, .int x10)]) hx hb dL_isSo_305 hl (by decide) rfl (fun ls hl => ?_)
            obtain ⟨v170002, ev170002⟩ : ∃ z : Int32, z = x10 + 1 := ⟨_, rfl⟩
            have hp := hp v170002 ev170002
            refine lv_iinc (v := v170002) (lv' := [(10, .int v170002), (9, .int v170001), (0, .ref (ad 0)), (1, .int x1), (2, .int x2), (3, .int x3), (4, .int x4), (5, .int x5), (6, .int x6), (7, .int x7), (8, .int x8)]) hx hb dL_isSo_307 hl (k := 10) rfl (by rw [ev170002]; rfl) (by decide) rfl (fun ls hl => ?_)
            refine lv_goto (tgt := 264) hx hb dL_isSo_310 (by decide) ?_
            exact ih_264 x1 x2 x3 x4 x5 x6 x7 x8 v170001 v170002 (σ) _ _ _  hP hD hS (lv_sub hl [2, 3, 4, 5, 6, 7, 8, 9, 10, 1, 0] rfl) hp
          have B_303 : ∀ (s0 : Int32) (x1 : Int32) (x2 : Int32) (x3 : Int32) (x4 : Int32) (x5 : Int32) (x6 : Int32) (x7 : Int32) (x8 : Int32) (x10 : Int32) (σ : Mem) (H : Heap) (locs : List Loc) (ls : Array Slot), va_P D vwCl (W5 k ad (σ)) H → va_D A (W5 k ad (σ)) → va_S A s.heap H locs → lv_has ls 11 [(0, .ref (ad 0)), (1, .int x1), (2, .int x2), (3, .int x3), (4, .int x4), (5, .int x5), (6, .int x6), (7, .int x7), (8, .int x8), (10, .int x10)] → (q_L_isSo_303 post (q_L_isSo_313 post (q_L_isSo_355 post) (q_L_isSo_363 post) (lp_8 (q_L_isSo_242 post (q_L_isSo_355 post) (q_L_isSo_363 post)) n_242)) (lp_11 (q_L_isSo_264 post (q_L_isSo_313 post (q_L_isSo_355 post) (q_L_isSo_363 post) (lp_8 (q_L_isSo_242 post (q_L_isSo_355 post) (q_L_isSo_363 post)) n_242))) n_264)) s0 x1 x2 x3 x4 x5 x6 x7 x8 x10 σ → W p l e rm_L_isSo s m args below meth c H locs 0 0 Q (F0 m 303 ls [.int s0]) := by
            intro s0 x1 x2 x3 x4 x5 x6 x7 x8 x10 σ H locs ls hP hD hS hl hp
            unfold q_L_isSo_303 at hp
            refine lv_iconst (v := 0) hx hb dL_isSo_303 (by decide) ?_
            exact B_304 0 s0 x1 x2 x3 x4 x5 x6 x7 x8 x10 (σ) _ _ _  hP hD hS (lv_sub hl [0, 1, 2, 3, 4, 5, 6, 7, 8, 9] rfl) hp
          intro x1 x2 x3 x4 x5 x6 x7 x8 x9 x10 σ H locs ls hP hD hS hl hp
          have hp : q_L_isSo_264 post (q_L_isSo_313 post (q_L_isSo_355 post) (q_L_isSo_363 post) (lp_8 (q_L_isSo_242 post (q_L_isSo_355 post) (q_L_isSo_363 post)) n_242)) (lp_11 (q_L_isSo_264 post (q_L_isSo_313 post (q_L_isSo_355 post) (q_L_isSo_363 post) (lp_8 (q_L_isSo_242 post (q_L_isSo_355 post) (q_L_isSo_363 post)) n_242))) n_264) x1 x2 x3 x4 x5 x6 x7 x8 x9 x10 σ := hp
          unfold q_L_isSo_264 at hp
          refine lv_iload hx hb dL_isSo_264 (lv_at hl 10 rfl) ?_
          refine lv_iload_n hx hb dL_isSo_266 rfl (lv_at hl 1 rfl) ?_
          refine lv_icmp_ge (tgt := 313) hx hb dL_isSo_267 (by decide) (fun c150001 => ?_) (fun c150001 => ?_)
          · have hp := hp.1 c150001
            exact B_313 x1 x2 x3 x4 x5 x6 x7 x9 (σ) _ _ _  hP hD hS (lv_sub hl [0, 1, 2, 3, 4, 5, 6, 7, 9] rfl) hp
          · have hp := hp.2 c150001
            refine lv_iload hx hb dL_isSo_270 (lv_at hl 9 rfl) ?_
            refine lv_iload hx hb dL_isSo_272 (lv_at hl 8 rfl) ?_
            refine lv_if_lt (tgt := 303) hx hb dL_isSo_274 (by decide) (fun c150002 => ?_) (fun c150002 => ?_)
            · have hp := hp.1 c150002
              exact B_303 x9 x1 x2 x3 x4 x5 x6 x7 x8 x10 (σ) _ _ _  hP hD hS (lv_sub hl [0, 1, 2, 3, 4, 5, 6, 7, 8, 10] rfl) hp
            · have hp := hp.2 c150002
              refine lv_aload_n hx hb dL_isSo_277 rfl (lv_at hl 0 rfl) ?_
              refine lv_iload hx hb dL_isSo_278 (lv_at hl 7 rfl) ?_
              refine lv_iload hx hb dL_isSo_280 (lv_at hl 10 rfl) ?_
              refine fw_ciV (As := [.int x7, .int x10]) (rest := [.int x9]) hC (c0_X5_has l D k ad hp) (cwV 2 hts (gB_V B_67 (iB_A _ A_309) (iB_A _ A_310) (iB_A _ A_25) (iB_A _ A_285)) rfl rfl rfl (by decide +kernel) ⟨Nat.le_of_ble_eq_true rfl, Nat.le_of_ble_eq_true rfl⟩) (va_recv hK hP (ci := 5) (q0 := 0) rfl rfl) rfl hl.1 rfl (Nat.le_of_ble_eq_true rfl) dL_isSo_282 ⟨Nat.le_of_ble_eq_true rfl, Nat.le_of_ble_eq_true rfl⟩ hP hD hS Jn.same (fun r150003 σ150004 H locs hP hD hS hp => ?_)
              have hP : va_P D vwCl (W5 k ad (σ150004)) H := hP
              have hD : va_D A (W5 k ad (σ150004)) := hD
              refine lv_aload_n hx hb dL_isSo_285 rfl (lv_at hl 0 rfl) ?_
              refine lv_iload hx hb dL_isSo_286 (lv_at hl 8 rfl) ?_
              refine lv_iload hx hb dL_isSo_288 (lv_at hl 10 rfl) ?_
              refine fw_ciV (As := [.int x8, .int x10]) (rest := [.int r150003, .int x9]) hC (c0_X5_ofCommit l D k ad hp) (cwV 2 hts (gB_V B_68 (iB_A _ A_314) (iB_A _ A_315) (iB_A _ A_25) (iB_A _ A_286)) rfl rfl rfl (by decide +kernel) ⟨Nat.le_of_ble_eq_true rfl, Nat.le_of_ble_eq_true rfl⟩) (va_recv hK hP (ci := 5) (q0 := 0) rfl rfl) rfl hl.1 rfl (Nat.le_of_ble_eq_true rfl) dL_isSo_290 ⟨Nat.le_of_ble_eq_true rfl, Nat.le_of_ble_eq_true rfl⟩ hP hD hS Jn.same (fun r150005 σ150006 H locs hP hD hS hp => ?_)
              have hP : va_P D vwCl (W5 k ad (σ150006)) H := hP
              have hD : va_D A (W5 k ad (σ150006)) := hD
              refine lv_icmp_eq (tgt := 303) hx hb dL_isSo_293 (by decide) (fun c150007 => ?_) (fun c150007 => ?_)
              · have hp := hp.1 c150007
                exact B_303 x9 x1 x2 x3 x4 x5 x6 x7 x8 x10 (σ150006) _ _ _  hP hD hS (lv_sub hl [0, 1, 2, 3, 4, 5, 6, 7, 8, 10] rfl) hp
              · have hp := hp.2 c150007
                refine lv_iconst (v := 1) hx hb dL_isSo_296 (by decide) ?_
                refine lv_iload hx hb dL_isSo_297 (lv_at hl 10 rfl) ?_
                refine lv_ishl hx hb dL_isSo_299 ?_
                refine lv_goto (tgt := 304) hx hb dL_isSo_300 (by decide) ?_
                exact B_304 ((1 : Int32) <<< (x10 &&& 31)) x9 x1 x2 x3 x4 x5 x6 x7 x8 x10 (σ150006) _ _ _  hP hD hS (lv_sub hl [0, 1, 2, 3, 4, 5, 6, 7, 8, 10] rfl) hp
      intro x1 x2 x3 x4 x5 x6 x7 σ H locs ls hP hD hS hl hp
      have hp : q_L_isSo_242 post (q_L_isSo_355 post) (q_L_isSo_363 post) (lp_8 (q_L_isSo_242 post (q_L_isSo_355 post) (q_L_isSo_363 post)) n_242) x1 x2 x3 x4 x5 x6 x7 σ := hp
      unfold q_L_isSo_242 at hp
      refine lv_iload hx hb dL_isSo_242 (lv_at hl 7 rfl) ?_
      refine lv_bipush (v := 6) hx hb dL_isSo_244 (by decide) ?_
      refine lv_icmp_ge (tgt := 363) hx hb dL_isSo_246 (by decide) (fun c140001 => ?_) (fun c140001 => ?_)
      · have hp := hp.1 c140001
        exact B_363 x2 x3 x4 x5 x6 (σ) _ _ _  hP hD hS (lv_sub hl [0, 2, 3, 4, 5, 6] rfl) hp
      · have hp := hp.2 c140001
        refine lv_aload_n hx hb dL_isSo_249 rfl (lv_at hl 0 rfl) ?_
        refine lv_iload hx hb dL_isSo_250 (lv_at hl 7 rfl) ?_
        refine lv_iconst (v := 0) hx hb dL_isSo_252 (by decide) ?_
        refine fw_ciV (As := [.int x7, .int 0]) (rest := []) hC (c0_X5_ofMachine l D k ad hp) (cwV 2 hts (gB_V B_66 (iB_A _ A_306) (iB_A _ A_307) (iB_A _ A_25) (iB_A _ A_284)) rfl rfl rfl (by decide +kernel) ⟨Nat.le_of_ble_eq_true rfl, Nat.le_of_ble_eq_true rfl⟩) (va_recv hK hP (ci := 5) (q0 := 0) rfl rfl) rfl hl.1 rfl (Nat.le_of_ble_eq_true rfl) dL_isSo_253 ⟨Nat.le_of_ble_eq_true rfl, Nat.le_of_ble_eq_true rfl⟩ hP hD hS Jn.same (fun r140002 σ140003 H locs hP hD hS hp => ?_)
        have hP : va_P D vwCl (W5 k ad (σ140003)) H := hP
        have hD : va_D A (W5 k ad (σ140003)) := hD
        refine lv_istore (lv' := [(8, .int r140002), (0, .ref (ad 0)), (1, .int x1), (2, .int x2), (3, .int x3), (4, .int x4), (5, .int x5), (6, .int x6), (7, .int x7)]) hx hb dL_isSo_256 hl (by decide) rfl (fun ls hl => ?_)
        refine lv_iconst (v := 0) hx hb dL_isSo_258 (by decide) ?_
        refine lv_istore (lv' := [(9, .int 0), (8, .int r140002), (0, .ref (ad 0)), (1, .int x1), (2, .int x2), (3, .int x3), (4, .int x4), (5, .int x5), (6, .int x6), (7, .int x7)]) hx hb dL_isSo_259 hl (by decide) rfl (fun ls hl => ?_)
        refine lv_iconst (v := 0) hx hb dL_isSo_261 (by decide) ?_
        refine lv_istore (lv' := [(10, .int 0), (9, .int 0), (8, .int r140002), (0, .ref (ad 0)), (1, .int x1), (2, .int x2), (3, .int x3), (4, .int x4), (5, .int x5), (6, .int x6), (7, .int x7)]) hx hb dL_isSo_262 hl (by decide) rfl (fun ls hl => ?_)
        obtain ⟨n9, hp⟩ := hp
        exact B_264 n9 x1 x2 x3 x4 x5 x6 x7 r140002 0 0 (σ140003) _ _ _  hP hD hS (lv_sub hl [3, 4, 5, 6, 7, 8, 9, 10, 2, 1, 0] rfl) hp
  have B_236 : ∀ (x1 : Int32) (x2 : Int32) (x3 : Int32) (x4 : Int32) (x5 : Int32) (σ : Mem) (H : Heap) (locs : List Loc) (ls : Array Slot), va_P D vwCl (W5 k ad (σ)) H → va_D A (W5 k ad (σ)) → va_S A s.heap H locs → lv_has ls 11 [(0, .ref (ad 0)), (1, .int x1), (2, .int x2), (3, .int x3), (4, .int x4), (5, .int x5)] → (q_L_isSo_236 post) x1 x2 x3 x4 x5 σ → W p l e rm_L_isSo s m args below meth c H locs 0 0 Q (F0 m 236 ls []) := by
    intro x1 x2 x3 x4 x5 σ H locs ls hP hD hS hl hp
    unfold q_L_isSo_236 at hp
    refine lv_iconst (v := 0) hx hb dL_isSo_236 (by decide) ?_
    refine lv_istore (lv' := [(6, .int 0), (0, .ref (ad 0)), (1, .int x1), (2, .int x2), (3, .int x3), (4, .int x4), (5, .int x5)]) hx hb dL_isSo_237 hl (by decide) rfl (fun ls hl => ?_)
    refine lv_iconst (v := 0) hx hb dL_isSo_239 (by decide) ?_
    refine lv_istore (lv' := [(7, .int 0), (6, .int 0), (0, .ref (ad 0)), (1, .int x1), (2, .int x2), (3, .int x3), (4, .int x4), (5, .int x5)]) hx hb dL_isSo_240 hl (by decide) rfl (fun ls hl => ?_)
    obtain ⟨n9, hp⟩ := hp
    exact B_242 n9 x1 x2 x3 x4 x5 0 0 (σ) _ _ _  hP hD hS (lv_sub hl [2, 3, 4, 5, 6, 7, 1, 0] rfl) hp
  have B_228 : ∀  (σ : Mem) (H : Heap) (locs : List Loc) (ls : Array Slot), va_P D vwCl (W5 k ad (σ)) H → va_D A (W5 k ad (σ)) → va_S A s.heap H locs → lv_has ls 11 [] → (q_L_isSo_228 post)  σ → W p l e rm_L_isSo s m args below meth c H locs 0 0 Q (F0 m 228 ls []) := by
    intro  σ H locs ls hP hD hS hl hp
    unfold q_L_isSo_228 at hp
    refine lv_iconst (v := 0) hx hb dL_isSo_228 (by decide) ?_
    exact hret 0 (σ) _ _ _ _ _ _ dL_isSo_229 (by decide) hP hD hS (Nat.le_of_ble_eq_true rfl) (Nat.le_of_ble_eq_true rfl) hp
  have B_61 : ∀ (n_61 : Nat) (x1 : Int32) (x2 : Int32) (x3 : Int32) (x4 : Int32) (x5 : Int32) (x6 : Int32) (σ : Mem) (H : Heap) (locs : List Loc) (ls : Array Slot), va_P D vwCl (W5 k ad (σ)) H → va_D A (W5 k ad (σ)) → va_S A s.heap H locs → lv_has ls 11 [(0, .ref (ad 0)), (1, .int x1), (2, .int x2), (3, .int x3), (4, .int x4), (5, .int x5), (6, .int x6)] → lp_7 (q_L_isSo_61 post (q_L_isSo_228 post) (q_L_isSo_236 post)) n_61 x1 x2 x3 x4 x5 x6 σ → W p l e rm_L_isSo s m args below meth c H locs 0 0 Q (F0 m 61 ls []) := by
    intro n_61
    induction n_61 with
    | zero => intro x1 x2 x3 x4 x5 x6 σ H locs ls hP hD hS hl hp; exact hp.elim
    | succ n_61 ih_61 =>
      have B_210 : ∀ (s0 : Int32) (s1 : Int32) (x1 : Int32) (x2 : Int32) (x3 : Int32) (x4 : Int32) (x5 : Int32) (x6 : Int32) (x7 : Int32) (σ : Mem) (H : Heap) (locs : List Loc) (ls : Array Slot), va_P D vwCl (W5 k ad (σ)) H → va_D A (W5 k ad (σ)) → va_S A s.heap H locs → lv_has ls 11 [(0, .ref (ad 0)), (1, .int x1), (2, .int x2), (3, .int x3), (4, .int x4), (5, .int x5), (6, .int x6), (7, .int x7)] → (q_L_isSo_210 post (q_L_isSo_228 post) (q_L_isSo_236 post) (lp_7 (q_L_isSo_61 post (q_L_isSo_228 post) (q_L_isSo_236 post)) n_61)) s0 s1 x1 x2 x3 x4 x5 x6 x7 σ → W p l e rm_L_isSo s m args below meth c H locs 0 0 Q (F0 m 210 ls [.int s0, .int s1]) := by
        intro s0 s1 x1 x2 x3 x4 x5 x6 x7 σ H locs ls hP hD hS hl hp
        unfold q_L_isSo_210 at hp
        refine lv_icmp_ne (tgt := 228) hx hb dL_isSo_210 (by decide) (fun c110001 => ?_) (fun c110001 => ?_)
        · have hp := hp.1 c110001
          exact B_228  (σ) _ _ _  hP hD hS (lv_sub hl [] rfl) hp
        · have hp := hp.2 c110001
          refine lv_aload_n hx hb dL_isSo_213 rfl (lv_at hl 0 rfl) ?_
          refine lv_iload hx hb dL_isSo_214 (lv_at hl 6 rfl) ?_
          refine lv_iconst (v := 2) hx hb dL_isSo_216 (by decide) ?_
          refine fw_ciV (As := [.int x6, .int 2]) (rest := []) hC (c0_X5_ofField l D k ad hp) (cwV 2 hts (gB_V B_9 (iB_A _ A_321) (iB_A _ A_322) (iB_A _ A_25) (iB_A _ A_272)) rfl rfl rfl (by decide +kernel) ⟨Nat.le_of_ble_eq_true rfl, Nat.le_of_ble_eq_true rfl⟩) (va_recv hK hP (ci := 5) (q0 := 0) rfl rfl) rfl hl.1 rfl (Nat.le_of_ble_eq_true rfl) dL_isSo_217 ⟨Nat.le_of_ble_eq_true rfl, Nat.le_of_ble_eq_true rfl⟩ hP hD hS Jn.same (fun r110002 σ110003 H locs hP hD hS hp => ?_)
          have hP : va_P D vwCl (W5 k ad (σ110003)) H := hP
          have hD : va_D A (W5 k ad (σ110003)) := hD
          refine lv_iload hx hb dL_isSo_220 (lv_at hl 7 rfl) ?_
          refine fw_ciS (As := [.int x7]) (rest := [.int r110002]) hC (c_J6_bitCount_0f7a4 l D k hp) (va_cwS 1 hts (gB_S B_65 (iB_A _ A_144) (iB_A _ A_145) (iB_A _ A_136)) rfl rfl rfl (by decide +kernel) ⟨Nat.le_of_ble_eq_true rfl, Nat.le_of_ble_eq_true rfl⟩) rfl hl.1 rfl (Nat.le_of_ble_eq_true rfl) dL_isSo_222 ⟨Nat.le_of_ble_eq_true rfl, Nat.le_of_ble_eq_true rfl⟩ P_nil D_nil hS (Jn.pure (w0 := fun _ : Mem => []) hP hD) (fun r110004 σ110005 H locs hP hD hS hp => ?_)
          have hP : va_P D vwCl (W5 k ad (σ110003)) H := hP
          have hD : va_D A (W5 k ad (σ110003)) := hD
          refine lv_icmp_eq (tgt := 230) hx hb dL_isSo_225 (by decide) (fun c110006 => ?_) (fun c110006 => ?_)
          · have hp := hp.1 c110006
            obtain ⟨v110007, ev110007⟩ : ∃ z : Int32, z = x6 + 1 := ⟨_, rfl⟩
            have hp := hp v110007 ev110007
            refine lv_iinc (v := v110007) (lv' := [(6, .int v110007), (0, .ref (ad 0)), (1, .int x1), (2, .int x2), (3, .int x3), (4, .int x4), (5, .int x5), (7, .int x7)]) hx hb dL_isSo_230 hl (k := 6) rfl (by rw [ev110007]; rfl) (by decide) rfl (fun ls hl => ?_)
            refine lv_goto (tgt := 61) hx hb dL_isSo_233 (by decide) ?_
            exact ih_61 x1 x2 x3 x4 x5 v110007 (σ110003) _ _ _  hP hD hS (lv_sub hl [1, 2, 3, 4, 5, 6, 0] rfl) hp
          · have hp := hp.2 c110006
            exact B_228  (σ110003) _ _ _  hP hD hS (lv_sub hl [] rfl) hp
      have B_196 : ∀ (s0 : Int32) (x1 : Int32) (x2 : Int32) (x3 : Int32) (x4 : Int32) (x5 : Int32) (x6 : Int32) (x7 : Int32) (σ : Mem) (H : Heap) (locs : List Loc) (ls : Array Slot), va_P D vwCl (W5 k ad (σ)) H → va_D A (W5 k ad (σ)) → va_S A s.heap H locs → lv_has ls 11 [(0, .ref (ad 0)), (1, .int x1), (2, .int x2), (3, .int x3), (4, .int x4), (5, .int x5), (6, .int x6), (7, .int x7)] → (q_L_isSo_196 post (q_L_isSo_228 post) (q_L_isSo_236 post) (lp_7 (q_L_isSo_61 post (q_L_isSo_228 post) (q_L_isSo_236 post)) n_61)) s0 x1 x2 x3 x4 x5 x6 x7 σ → W p l e rm_L_isSo s m args below meth c H locs 0 0 Q (F0 m 196 ls [.int s0]) := by
        intro s0 x1 x2 x3 x4 x5 x6 x7 σ H locs ls hP hD hS hl hp
        unfold q_L_isSo_196 at hp
        refine lv_aload_n hx hb dL_isSo_196 rfl (lv_at hl 0 rfl) ?_
        refine lv_bipush (v := 7) hx hb dL_isSo_197 (by decide) ?_
        refine fw_ciV (As := [.int 7]) (rest := [.int s0]) hC (c0_X5_house l D k ad hp) (cwV 1 hts (gB_V B_5 (iB_A _ A_318) (iB_A _ A_319) (iB_A _ A_25) (iB_A _ A_298)) rfl rfl rfl (by decide +kernel) ⟨Nat.le_of_ble_eq_true rfl, Nat.le_of_ble_eq_true rfl⟩) (va_recv hK hP (ci := 5) (q0 := 0) rfl rfl) rfl hl.1 rfl (Nat.le_of_ble_eq_true rfl) dL_isSo_199 ⟨Nat.le_of_ble_eq_true rfl, Nat.le_of_ble_eq_true rfl⟩ hP hD hS Jn.same (fun r100001 σ100002 H locs hP hD hS hp => ?_)
        have hP : va_P D vwCl (W5 k ad (σ100002)) H := hP
        have hD : va_D A (W5 k ad (σ100002)) := hD
        refine lv_if_lt (tgt := 209) hx hb dL_isSo_202 (by decide) (fun c100003 => ?_) (fun c100003 => ?_)
        · have hp := hp.1 c100003
          refine lv_iconst (v := 0) hx hb dL_isSo_209 (by decide) ?_
          exact B_210 0 s0 x1 x2 x3 x4 x5 x6 x7 (σ100002) _ _ _  hP hD hS (lv_sub hl [0, 1, 2, 3, 4, 5, 6, 7] rfl) hp
        · have hp := hp.2 c100003
          refine lv_iconst (v := 1) hx hb dL_isSo_205 (by decide) ?_
          refine lv_goto (tgt := 210) hx hb dL_isSo_206 (by decide) ?_
          exact B_210 1 s0 x1 x2 x3 x4 x5 x6 x7 (σ100002) _ _ _  hP hD hS (lv_sub hl [0, 1, 2, 3, 4, 5, 6, 7] rfl) hp
      have B_186 : ∀ (x1 : Int32) (x2 : Int32) (x3 : Int32) (x4 : Int32) (x5 : Int32) (x6 : Int32) (x7 : Int32) (x9 : Int32) (σ : Mem) (H : Heap) (locs : List Loc) (ls : Array Slot), va_P D vwCl (W5 k ad (σ)) H → va_D A (W5 k ad (σ)) → va_S A s.heap H locs → lv_has ls 11 [(0, .ref (ad 0)), (1, .int x1), (2, .int x2), (3, .int x3), (4, .int x4), (5, .int x5), (6, .int x6), (7, .int x7), (9, .int x9)] → (q_L_isSo_186 post (q_L_isSo_228 post) (q_L_isSo_236 post) (lp_7 (q_L_isSo_61 post (q_L_isSo_228 post) (q_L_isSo_236 post)) n_61)) x1 x2 x3 x4 x5 x6 x7 x9 σ → W p l e rm_L_isSo s m args below meth c H locs 0 0 Q (F0 m 186 ls []) := by
        intro x1 x2 x3 x4 x5 x6 x7 x9 σ H locs ls hP hD hS hl hp
        unfold q_L_isSo_186 at hp
        refine lv_iload hx hb dL_isSo_186 (lv_at hl 8 rfl) ?_
        refine lv_if_lt (tgt := 195) hx hb dL_isSo_188 (by decide) (fun c90001 => ?_) (fun c90001 => ?_)
        · have hp := hp.1 c90001
          refine lv_iconst (v := 0) hx hb dL_isSo_195 (by decide) ?_
          exact B_196 0 x1 x2 x3 x4 x5 x6 x7 (σ) _ _ _  hP hD hS (lv_sub hl [0, 1, 2, 3, 4, 5, 6, 7] rfl) hp
        · have hp := hp.2 c90001
          refine lv_iconst (v := 1) hx hb dL_isSo_191 (by decide) ?_
          refine lv_goto (tgt := 196) hx hb dL_isSo_192 (by decide) ?_
          exact B_196 1 x1 x2 x3 x4 x5 x6 x7 (σ) _ _ _  hP hD hS (lv_sub hl [0, 1, 2, 3, 4, 5, 6, 7] rfl) hp
      have B_171 : ∀ (x1 : Int32) (x2 : Int32) (x3 : Int32) (x4 : Int32) (x5 : Int32) (x6 : Int32) (x7 : Int32) (x9 : Int32) (σ : Mem) (H : Heap) (locs : List Loc) (ls : Array Slot), va_P D vwCl (W5 k ad (σ)) H → va_D A (W5 k ad (σ)) → va_S A s.heap H locs → lv_has ls 11 [(0, .ref (ad 0)), (1, .int x1), (2, .int x2), (3, .int x3), (4, .int x4), (5, .int x5), (6, .int x6), (7, .int x7), (9, .int x9)] → (q_L_isSo_171 post (q_L_isSo_228 post) (q_L_isSo_236 post) (lp_7 (q_L_isSo_61 post (q_L_isSo_228 post) (q_L_isSo_236 post)) n_61)) x1 x2 x3 x4 x5 x6 x7 x9 σ → W p l e rm_L_isSo s m args below meth c H locs 0 0 Q (F0 m 171 ls []) := by
        intro x1 x2 x3 x4 x5 x6 x7 x9 σ H locs ls hP hD hS hl hp
        unfold q_L_isSo_171 at hp
        refine lv_iload hx hb dL_isSo_171 (lv_at hl 8 rfl) ?_
        refine lv_if_lt (tgt := 186) hx hb dL_isSo_173 (by decide) (fun c80001 => ?_) (fun c80001 => ?_)
        · have hp := hp.1 c80001
          exact B_186 x1 x2 x3 x4 x5 x6 x7 x9 (σ) _ _ _  hP hD hS (lv_sub hl [0, 1, 2, 3, 4, 5, 6, 7, 8] rfl) hp
        · have hp := hp.2 c80001
          refine lv_iload hx hb dL_isSo_176 (lv_at hl 7 rfl) ?_
          refine lv_iload hx hb dL_isSo_178 (lv_at hl 8 rfl) ?_
          refine lv_ishr hx hb dL_isSo_180 ?_
          refine lv_iconst (v := 1) hx hb dL_isSo_181 (by decide) ?_
          refine lv_iand hx hb dL_isSo_182 ?_
          refine lv_if_eq (tgt := 228) hx hb dL_isSo_183 (by decide) (fun c80002 => ?_) (fun c80002 => ?_)
          · have hp := hp.1 c80002
            exact B_228  (σ) _ _ _  hP hD hS (lv_sub hl [] rfl) hp
          · have hp := hp.2 c80002
            exact B_186 x1 x2 x3 x4 x5 x6 x7 x9 (σ) _ _ _  hP hD hS (lv_sub hl [0, 1, 2, 3, 4, 5, 6, 7, 8] rfl) hp
      have B_157 : ∀ (x1 : Int32) (x2 : Int32) (x3 : Int32) (x4 : Int32) (x5 : Int32) (x6 : Int32) (x7 : Int32) (x8 : Int32) (x9 : Int32) (σ : Mem) (H : Heap) (locs : List Loc) (ls : Array Slot), va_P D vwCl (W5 k ad (σ)) H → va_D A (W5 k ad (σ)) → va_S A s.heap H locs → lv_has ls 11 [(0, .ref (ad 0)), (1, .int x1), (2, .int x2), (3, .int x3), (4, .int x4), (5, .int x5), (6, .int x6), (7, .int x7), (8, .int x8), (9, .int x9)] → (q_L_isSo_157 post (q_L_isSo_228 post) (q_L_isSo_236 post) (lp_7 (q_L_isSo_61 post (q_L_isSo_228 post) (q_L_isSo_236 post)) n_61)) x1 x2 x3 x4 x5 x6 x7 x8 x9 σ → W p l e rm_L_isSo s m args below meth c H locs 0 0 Q (F0 m 157 ls []) := by
        intro x1 x2 x3 x4 x5 x6 x7 x8 x9 σ H locs ls hP hD hS hl hp
        unfold q_L_isSo_157 at hp
        refine lv_iload hx hb dL_isSo_157 (lv_at hl 7 rfl) ?_
        refine fw_ciS (As := [.int x7]) (rest := []) hC (c_J6_bitCount_0f7a4 l D k hp) (va_cwS 1 hts (gB_S B_65 (iB_A _ A_144) (iB_A _ A_145) (iB_A _ A_136)) rfl rfl rfl (by decide +kernel) ⟨Nat.le_of_ble_eq_true rfl, Nat.le_of_ble_eq_true rfl⟩) rfl hl.1 rfl (Nat.le_of_ble_eq_true rfl) dL_isSo_159 ⟨Nat.le_of_ble_eq_true rfl, Nat.le_of_ble_eq_true rfl⟩ P_nil D_nil hS (Jn.pure (w0 := fun _ : Mem => []) hP hD) (fun r70001 σ70002 H locs hP hD hS hp => ?_)
        have hP : va_P D vwCl (W5 k ad (σ)) H := hP
        have hD : va_D A (W5 k ad (σ)) := hD
        refine lv_iconst (v := 1) hx hb dL_isSo_162 (by decide) ?_
        refine lv_icmp_ne (tgt := 171) hx hb dL_isSo_163 (by decide) (fun c70003 => ?_) (fun c70003 => ?_)
        · have hp := hp.1 c70003
          exact B_171 x1 x2 x3 x4 x5 x6 x7 x9 (σ) _ _ _  hP hD hS (lv_sub hl [0, 1, 2, 3, 4, 5, 6, 7, 9] rfl) hp
        · have hp := hp.2 c70003
          refine lv_iload hx hb dL_isSo_166 (lv_at hl 8 rfl) ?_
          refine lv_if_lt (tgt := 228) hx hb dL_isSo_168 (by decide) (fun c70004 => ?_) (fun c70004 => ?_)
          · have hp := hp.1 c70004
            exact B_228  (σ) _ _ _  hP hD hS (lv_sub hl [] rfl) hp
          · have hp := hp.2 c70004
            exact B_171 x1 x2 x3 x4 x5 x6 x7 x9 (σ) _ _ _  hP hD hS (lv_sub hl [0, 1, 2, 3, 4, 5, 6, 7, 9] rfl) hp
      have B_138 : ∀ (s0 : Int32) (x1 : Int32) (x2 : Int32) (x3 : Int32) (x4 : Int32) (x5 : Int32) (x6 : Int32) (x7 : Int32) (x8 : Int32) (x9 : Int32) (σ : Mem) (H : Heap) (locs : List Loc) (ls : Array Slot), va_P D vwCl (W5 k ad (σ)) H → va_D A (W5 k ad (σ)) → va_S A s.heap H locs → lv_has ls 11 [(0, .ref (ad 0)), (1, .int x1), (2, .int x2), (3, .int x3), (4, .int x4), (5, .int x5), (6, .int x6), (7, .int x7), (8, .int x8), (9, .int x9)] → (q_L_isSo_138 post (q_L_isSo_228 post) (q_L_isSo_236 post) (lp_7 (q_L_isSo_61 post (q_L_isSo_228 post) (q_L_isSo_236 post)) n_61)) s0 x1 x2 x3 x4 x5 x6 x7 x8 x9 σ → W p l e rm_L_isSo s m args below meth c H locs 0 0 Q (F0 m 138 ls [.int s0]) := by
        intro s0 x1 x2 x3 x4 x5 x6 x7 x8 x9 σ H locs ls hP hD hS hl hp
        unfold q_L_isSo_138 at hp
        refine lv_iload_n hx hb dL_isSo_138 rfl (lv_at hl 2 rfl) ?_
        refine lv_icmp_ne (tgt := 228) hx hb dL_isSo_139 (by decide) (fun c60001 => ?_) (fun c60001 => ?_)
        · have hp := hp.1 c60001
          exact B_228  (σ) _ _ _  hP hD hS (lv_sub hl [] rfl) hp
        · have hp := hp.2 c60001
          refine lv_iload hx hb dL_isSo_142 (lv_at hl 8 rfl) ?_
          refine lv_if_lt (tgt := 157) hx hb dL_isSo_144 (by decide) (fun c60002 => ?_) (fun c60002 => ?_)
          · have hp := hp.1 c60002
            exact B_157 x1 x2 x3 x4 x5 x6 x7 x8 x9 (σ) _ _ _  hP hD hS (lv_sub hl [0, 1, 2, 3, 4, 5, 6, 7, 8, 9] rfl) hp
          · have hp := hp.2 c60002
            refine lv_iload hx hb dL_isSo_147 (lv_at hl 7 rfl) ?_
            refine lv_iload hx hb dL_isSo_149 (lv_at hl 8 rfl) ?_
            refine lv_ishr hx hb dL_isSo_151 ?_
            refine lv_iconst (v := 1) hx hb dL_isSo_152 (by decide) ?_
            refine lv_iand hx hb dL_isSo_153 ?_
            refine lv_if_eq (tgt := 228) hx hb dL_isSo_154 (by decide) (fun c60003 => ?_) (fun c60003 => ?_)
            · have hp := hp.1 c60003
              exact B_228  (σ) _ _ _  hP hD hS (lv_sub hl [] rfl) hp
            · have hp := hp.2 c60003
              exact B_157 x1 x2 x3 x4 x5 x6 x7 x8 x9 (σ) _ _ _  hP hD hS (lv_sub hl [0, 1, 2, 3, 4, 5, 6, 7, 8, 9] rfl) hp
      have B_106 : ∀ (s0 : Int32) (s1 : Int32) (x1 : Int32) (x2 : Int32) (x3 : Int32) (x5 : Int32) (x6 : Int32) (x7 : Int32) (x8 : Int32) (x9 : Int32) (σ : Mem) (H : Heap) (locs : List Loc) (ls : Array Slot), va_P D vwCl (W5 k ad (σ)) H → va_D A (W5 k ad (σ)) → va_S A s.heap H locs → lv_has ls 11 [(0, .ref (ad 0)), (1, .int x1), (2, .int x2), (3, .int x3), (5, .int x5), (6, .int x6), (7, .int x7), (8, .int x8), (9, .int x9)] → (q_L_isSo_106 post (q_L_isSo_228 post) (q_L_isSo_236 post) (lp_7 (q_L_isSo_61 post (q_L_isSo_228 post) (q_L_isSo_236 post)) n_61)) s0 s1 x1 x2 x3 x5 x6 x7 x8 x9 σ → W p l e rm_L_isSo s m args below meth c H locs 0 0 Q (F0 m 106 ls [.int s0, .int s1]) := by
        intro s0 s1 x1 x2 x3 x5 x6 x7 x8 x9 σ H locs ls hP hD hS hl hp
        unfold q_L_isSo_106 at hp
        refine lv_iadd hx hb dL_isSo_106 ?_
        refine lv_topi (fun v50001 ev50001 => ?_)
        have hp := hp v50001 ev50001
        refine lv_istore (lv' := [(4, .int v50001), (0, .ref (ad 0)), (1, .int x1), (2, .int x2), (3, .int x3), (5, .int x5), (6, .int x6), (7, .int x7), (8, .int x8), (9, .int x9)]) hx hb dL_isSo_107 hl (by decide) rfl (fun ls hl => ?_)
        refine lv_iload hx hb dL_isSo_109 (lv_at hl 5 rfl) ?_
        refine lv_aload_n hx hb dL_isSo_111 rfl (lv_at hl 1 rfl) ?_
        refine lv_iload hx hb dL_isSo_112 (lv_at hl 6 rfl) ?_
        refine lv_iconst (v := 4) hx hb dL_isSo_114 (by decide) ?_
        refine fw_ciV (As := [.int x6, .int 4]) (rest := [.int x5]) hC (c0_X5_ofField l D k ad hp) (cwV 2 hts (gB_V B_9 (iB_A _ A_321) (iB_A _ A_322) (iB_A _ A_25) (iB_A _ A_272)) rfl rfl rfl (by decide +kernel) ⟨Nat.le_of_ble_eq_true rfl, Nat.le_of_ble_eq_true rfl⟩) (va_recv hK hP (ci := 5) (q0 := 0) rfl rfl) rfl hl.1 rfl (Nat.le_of_ble_eq_true rfl) dL_isSo_115 ⟨Nat.le_of_ble_eq_true rfl, Nat.le_of_ble_eq_true rfl⟩ hP hD hS Jn.same (fun r50002 σ50003 H locs hP hD hS hp => ?_)
        have hP : va_P D vwCl (W5 k ad (σ50003)) H := hP
        have hD : va_D A (W5 k ad (σ50003)) := hD
        refine lv_iconst (v := 0) hx hb dL_isSo_118 (by decide) ?_
        refine lv_iload hx hb dL_isSo_119 (lv_at hl 9 rfl) ?_
        refine va_mmax (x := 0) (y := x9) hx hb (by rw [hml]; exact hl.1.symm) hown (hts _ (List.mem_cons_of_mem _ B_38)) (hts _ (List.mem_cons_of_mem _ B_39)) (hts _ (List.mem_cons_of_mem _ B_40)) (hts _ (List.mem_cons_of_mem _ B_41)) (Nat.le_of_ble_eq_true rfl) (Nat.le_of_ble_eq_true rfl) (Nat.zero_le _) (Nat.zero_le _) dL_isSo_121 ?_
        refine lv_imul hx hb dL_isSo_124 ?_
        refine lv_iadd hx hb dL_isSo_125 ?_
        refine lv_topi (fun v50004 ev50004 => ?_)
        have hp := hp v50004 ev50004
        refine lv_istore (lv' := [(5, .int v50004), (4, .int v50001), (0, .ref (ad 0)), (1, .int x1), (2, .int x2), (3, .int x3), (6, .int x6), (7, .int x7), (8, .int x8), (9, .int x9)]) hx hb dL_isSo_126 hl (by decide) rfl (fun ls hl => ?_)
        refine lv_iload hx hb dL_isSo_128 (lv_at hl 7 rfl) ?_
        refine lv_if_ne (tgt := 137) hx hb dL_isSo_130 (by decide) (fun c50005 => ?_) (fun c50005 => ?_)
        · have hp := hp.1 c50005
          refine lv_iconst (v := 0) hx hb dL_isSo_137 (by decide) ?_
          exact B_138 0 x1 x2 x3 v50001 v50004 x6 x7 x8 x9 (σ50003) _ _ _  hP hD hS (lv_sub hl [2, 3, 4, 5, 1, 0, 6, 7, 8, 9] rfl) hp
        · have hp := hp.2 c50005
          refine lv_iconst (v := 1) hx hb dL_isSo_133 (by decide) ?_
          refine lv_goto (tgt := 138) hx hb dL_isSo_134 (by decide) ?_
          exact B_138 1 x1 x2 x3 v50001 v50004 x6 x7 x8 x9 (σ50003) _ _ _  hP hD hS (lv_sub hl [2, 3, 4, 5, 1, 0, 6, 7, 8, 9] rfl) hp
      intro x1 x2 x3 x4 x5 x6 σ H locs ls hP hD hS hl hp
      have hp : q_L_isSo_61 post (q_L_isSo_228 post) (q_L_isSo_236 post) (lp_7 (q_L_isSo_61 post (q_L_isSo_228 post) (q_L_isSo_236 post)) n_61) x1 x2 x3 x4 x5 x6 σ := hp
      unfold q_L_isSo_61 at hp
      refine lv_iload hx hb dL_isSo_61 (lv_at hl 6 rfl) ?_
      refine lv_iload_n hx hb dL_isSo_63 rfl (lv_at hl 1 rfl) ?_
      refine lv_icmp_ge (tgt := 236) hx hb dL_isSo_64 (by decide) (fun c40001 => ?_) (fun c40001 => ?_)
      · have hp := hp.1 c40001
        exact B_236 x1 x2 x3 x4 x5 (σ) _ _ _  hP hD hS (lv_sub hl [0, 1, 2, 3, 4, 5] rfl) hp
      · have hp := hp.2 c40001
        refine lv_aload_n hx hb dL_isSo_67 rfl (lv_at hl 0 rfl) ?_
        refine lv_iload hx hb dL_isSo_68 (lv_at hl 6 rfl) ?_
        refine lv_iconst (v := 1) hx hb dL_isSo_70 (by decide) ?_
        refine fw_ciV (As := [.int x6, .int 1]) (rest := []) hC (c0_X5_ofField l D k ad hp) (cwV 2 hts (gB_V B_9 (iB_A _ A_321) (iB_A _ A_322) (iB_A _ A_25) (iB_A _ A_272)) rfl rfl rfl (by decide +kernel) ⟨Nat.le_of_ble_eq_true rfl, Nat.le_of_ble_eq_true rfl⟩) (va_recv hK hP (ci := 5) (q0 := 0) rfl rfl) rfl hl.1 rfl (Nat.le_of_ble_eq_true rfl) dL_isSo_71 ⟨Nat.le_of_ble_eq_true rfl, Nat.le_of_ble_eq_true rfl⟩ hP hD hS Jn.same (fun r40002 σ40003 H locs hP hD hS hp => ?_)
        have hP : va_P D vwCl (W5 k ad (σ40003)) H := hP
        have hD : va_D A (W5 k ad (σ40003)) := hD
        refine lv_istore (lv' := [(7, .int r40002), (0, .ref (ad 0)), (1, .int x1), (2, .int x2), (3, .int x3), (4, .int x4), (5, .int x5), (6, .int x6)]) hx hb dL_isSo_74 hl (by decide) rfl (fun ls hl => ?_)
        refine lv_aload_n hx hb dL_isSo_76 rfl (lv_at hl 1 rfl) ?_
        refine lv_iload hx hb dL_isSo_77 (lv_at hl 7 rfl) ?_
        refine lv_iconst (v := 3) hx hb dL_isSo_79 (by decide) ?_
        refine fw_ciV (As := [.int x6, .int 3]) (rest := []) hC (c0_X5_ofField l D k ad hp) (cwV 2 hts (gB_V B_9 (iB_A _ A_321) (iB_A _ A_322) (iB_A _ A_25) (iB_A _ A_272)) rfl rfl rfl (by decide +kernel) ⟨Nat.le_of_ble_eq_true rfl, Nat.le_of_ble_eq_true rfl⟩) (va_recv hK hP (ci := 5) (q0 := 0) rfl rfl) rfl hl.1 rfl (Nat.le_of_ble_eq_true rfl) dL_isSo_80 ⟨Nat.le_of_ble_eq_true rfl, Nat.le_of_ble_eq_true rfl⟩ hP hD hS Jn.same (fun r40004 σ40005 H locs hP hD hS hp => ?_)
        have hP : va_P D vwCl (W5 k ad (σ40005)) H := hP
        have hD : va_D A (W5 k ad (σ40005)) := hD
        refine lv_istore (lv' := [(8, .int r40004), (7, .int r40002), (0, .ref (ad 0)), (1, .int x1), (2, .int x2), (3, .int x3), (4, .int x4), (5, .int x5), (6, .int x6)]) hx hb dL_isSo_83 hl (by decide) rfl (fun ls hl => ?_)
        refine lv_aload_n hx hb dL_isSo_85 rfl (lv_at hl 2 rfl) ?_
        refine lv_iload hx hb dL_isSo_86 (lv_at hl 8 rfl) ?_
        refine lv_iconst (v := 5) hx hb dL_isSo_88 (by decide) ?_
        refine fw_ciV (As := [.int x6, .int 5]) (rest := []) hC (c0_X5_ofField l D k ad hp) (cwV 2 hts (gB_V B_9 (iB_A _ A_321) (iB_A _ A_322) (iB_A _ A_25) (iB_A _ A_272)) rfl rfl rfl (by decide +kernel) ⟨Nat.le_of_ble_eq_true rfl, Nat.le_of_ble_eq_true rfl⟩) (va_recv hK hP (ci := 5) (q0 := 0) rfl rfl) rfl hl.1 rfl (Nat.le_of_ble_eq_true rfl) dL_isSo_89 ⟨Nat.le_of_ble_eq_true rfl, Nat.le_of_ble_eq_true rfl⟩ hP hD hS Jn.same (fun r40006 σ40007 H locs hP hD hS hp => ?_)
        have hP : va_P D vwCl (W5 k ad (σ40007)) H := hP
        have hD : va_D A (W5 k ad (σ40007)) := hD
        refine lv_istore (lv' := [(9, .int r40006), (8, .int r40004), (7, .int r40002), (0, .ref (ad 0)), (1, .int x1), (2, .int x2), (3, .int x3), (4, .int x4), (5, .int x5), (6, .int x6)]) hx hb dL_isSo_92 hl (by decide) rfl (fun ls hl => ?_)
        refine lv_iload hx hb dL_isSo_94 (lv_at hl 7 rfl) ?_
        refine lv_iload hx hb dL_isSo_96 (lv_at hl 1 rfl) ?_
        refine lv_if_lt (tgt := 105) hx hb dL_isSo_98 (by decide) (fun c40008 => ?_) (fun c40008 => ?_)
        · have hp := hp.1 c40008
          refine lv_iconst (v := 0) hx hb dL_isSo_105 (by decide) ?_
          exact B_106 0 x4 x1 x2 x3 x5 x6 r40002 r40004 r40006 (σ40007) _ _ _  hP hD hS (lv_sub hl [3, 4, 5, 6, 8, 9, 2, 1, 0] rfl) hp
        · have hp := hp.2 c40008
          refine lv_iconst (v := 1) hx hb dL_isSo_101 (by decide) ?_
          refine lv_goto (tgt := 106) hx hb dL_isSo_102 (by decide) ?_
          exact B_106 1 x4 x1 x2 x3 x5 x6 r40002 r40004 r40006 (σ40007) _ _ _  hP hD hS (lv_sub hl [3, 4, 5, 6, 8, 9, 2, 1, 0] rfl) hp
  have B_58 : ∀ (x1 : Int32) (x2 : Int32) (x3 : Int32) (x4 : Int32) (x5 : Int32) (σ : Mem) (H : Heap) (locs : List Loc) (ls : Array Slot), va_P D vwCl (W5 k ad (σ)) H → va_D A (W5 k ad (σ)) → va_S A s.heap H locs → lv_has ls 11 [(0, .ref (ad 0)), (1, .int x1), (2, .int x2), (3, .int x3), (4, .int x4), (5, .int x5)] → (q_L_isSo_58 post) x1 x2 x3 x4 x5 σ → W p l e rm_L_isSo s m args below meth c H locs 0 0 Q (F0 m 58 ls []) := by
    intro x1 x2 x3 x4 x5 σ H locs ls hP hD hS hl hp
    unfold q_L_isSo_58 at hp
    refine lv_iconst (v := 0) hx hb dL_isSo_58 (by decide) ?_
    refine lv_istore (lv' := [(6, .int 0), (0, .ref (ad 0)), (1, .int x1), (2, .int x2), (3, .int x3), (4, .int x4), (5, .int x5)]) hx hb dL_isSo_59 hl (by decide) rfl (fun ls hl => ?_)
    obtain ⟨n9, hp⟩ := hp
    exact B_61 n9 x1 x2 x3 x4 x5 0 (σ) _ _ _  hP hD hS (lv_sub hl [1, 2, 3, 4, 5, 6, 0] rfl) hp
  have B_32 : ∀ (n_32 : Nat) (x1 : Int32) (x2 : Int32) (x3 : Int32) (x4 : Int32) (x5 : Int32) (x6 : Int32) (σ : Mem) (H : Heap) (locs : List Loc) (ls : Array Slot), va_P D vwCl (W5 k ad (σ)) H → va_D A (W5 k ad (σ)) → va_S A s.heap H locs → lv_has ls 11 [(0, .ref (ad 0)), (1, .int x1), (2, .int x2), (3, .int x3), (4, .int x4), (5, .int x5), (6, .int x6)] → lp_7 (q_L_isSo_32 post (q_L_isSo_58 post)) n_32 x1 x2 x3 x4 x5 x6 σ → W p l e rm_L_isSo s m args below meth c H locs 0 0 Q (F0 m 32 ls []) := by
    intro n_32
    induction n_32 with
    | zero => intro x1 x2 x3 x4 x5 x6 σ H locs ls hP hD hS hl hp; exact hp.elim
    | succ n_32 ih_32 =>
      intro x1 x2 x3 x4 x5 x6 σ H locs ls hP hD hS hl hp
      have hp : q_L_isSo_32 post (q_L_isSo_58 post) (lp_7 (q_L_isSo_32 post (q_L_isSo_58 post)) n_32) x1 x2 x3 x4 x5 x6 σ := hp
      unfold q_L_isSo_32 at hp
      refine lv_iload hx hb dL_isSo_32 (lv_at hl 6 rfl) ?_
      refine lv_aload_n hx hb dL_isSo_34 rfl (lv_at hl 0 rfl) ?_
      refine lv_iconst (v := 1) hx hb dL_isSo_35 (by decide) ?_
      refine fw_ciV (As := [.int 1]) (rest := [.int x6]) hC (c0_X5_house l D k ad hp) (cwV 1 hts (gB_V B_5 (iB_A _ A_318) (iB_A _ A_319) (iB_A _ A_25) (iB_A _ A_298)) rfl rfl rfl (by decide +kernel) ⟨Nat.le_of_ble_eq_true rfl, Nat.le_of_ble_eq_true rfl⟩) (va_recv hK hP (ci := 5) (q0 := 0) rfl rfl) rfl hl.1 rfl (Nat.le_of_ble_eq_true rfl) dL_isSo_36 ⟨Nat.le_of_ble_eq_true rfl, Nat.le_of_ble_eq_true rfl⟩ hP hD hS Jn.same (fun r20001 σ20002 H locs hP hD hS hp => ?_)
      have hP : va_P D vwCl (W5 k ad (σ20002)) H := hP
      have hD : va_D A (W5 k ad (σ20002)) := hD
      refine lv_icmp_ge (tgt := 58) hx hb dL_isSo_39 (by decide) (fun c20003 => ?_) (fun c20003 => ?_)
      · have hp := hp.1 c20003
        exact B_58 x1 x2 x3 x4 x5 (σ20002) _ _ _  hP hD hS (lv_sub hl [0, 1, 2, 3, 4, 5] rfl) hp
      · have hp := hp.2 c20003
        refine lv_iload_n hx hb dL_isSo_42 rfl (lv_at hl 3 rfl) ?_
        refine lv_aload_n hx hb dL_isSo_43 rfl (lv_at hl 0 rfl) ?_
        refine lv_iload hx hb dL_isSo_44 (lv_at hl 6 rfl) ?_
        refine lv_iconst (v := 5) hx hb dL_isSo_46 (by decide) ?_
        refine fw_ciV (As := [.int x6, .int 5]) (rest := [.int x3]) hC (c0_X5_ofLine l D k ad hp) (cwV 2 hts (gB_V B_64 (iB_A _ A_327) (iB_A _ A_328) (iB_A _ A_25) (iB_A _ A_281)) rfl rfl rfl (by decide +kernel) ⟨Nat.le_of_ble_eq_true rfl, Nat.le_of_ble_eq_true rfl⟩) (va_recv hK hP (ci := 5) (q0 := 0) rfl rfl) rfl hl.1 rfl (Nat.le_of_ble_eq_true rfl) dL_isSo_47 ⟨Nat.le_of_ble_eq_true rfl, Nat.le_of_ble_eq_true rfl⟩ hP hD hS Jn.same (fun r20004 σ20005 H locs hP hD hS hp => ?_)
        have hP : va_P D vwCl (W5 k ad (σ20005)) H := hP
        have hD : va_D A (W5 k ad (σ20005)) := hD
        refine lv_iadd hx hb dL_isSo_50 ?_
        refine lv_topi (fun v20006 ev20006 => ?_)
        have hp := hp v20006 ev20006
        refine lv_istore_n (lv' := [(3, .int v20006), (0, .ref (ad 0)), (1, .int x1), (2, .int x2), (4, .int x4), (5, .int x5), (6, .int x6)]) hx hb dL_isSo_51 rfl hl (by decide) rfl (fun ls hl => ?_)
        obtain ⟨v20007, ev20007⟩ : ∃ z : Int32, z = x6 + 1 := ⟨_, rfl⟩
        have hp := hp v20007 ev20007
        refine lv_iinc (v := v20007) (lv' := [(6, .int v20007), (3, .int v20006), (0, .ref (ad 0)), (1, .int x1), (2, .int x2), (4, .int x4), (5, .int x5)]) hx hb dL_isSo_52 hl (k := 6) rfl (by rw [ev20007]; rfl) (by decide) rfl (fun ls hl => ?_)
        refine lv_goto (tgt := 32) hx hb dL_isSo_55 (by decide) ?_
        exact ih_32 x1 x2 v20006 x4 x5 v20007 (σ20005) _ _ _  hP hD hS (lv_sub hl [2, 3, 4, 1, 5, 6, 0] rfl) hp
  have B_20 : ∀ (s0 : Int32) (x1 : Int32) (σ : Mem) (H : Heap) (locs : List Loc) (ls : Array Slot), va_P D vwCl (W5 k ad (σ)) H → va_D A (W5 k ad (σ)) → va_S A s.heap H locs → lv_has ls 11 [(0, .ref (ad 0)), (1, .int x1)] → (q_L_isSo_20 post) s0 x1 σ → W p l e rm_L_isSo s m args below meth c H locs 0 0 Q (F0 m 20 ls [.int s0]) := by
    intro s0 x1 σ H locs ls hP hD hS hl hp
    unfold q_L_isSo_20 at hp
    refine lv_istore_n (lv' := [(2, .int s0), (0, .ref (ad 0)), (1, .int x1)]) hx hb dL_isSo_20 rfl hl (by decide) rfl (fun ls hl => ?_)
    refine lv_iconst (v := 0) hx hb dL_isSo_21 (by decide) ?_
    refine lv_istore_n (lv' := [(3, .int 0), (2, .int s0), (0, .ref (ad 0)), (1, .int x1)]) hx hb dL_isSo_22 rfl hl (by decide) rfl (fun ls hl => ?_)
    refine lv_iconst (v := 0) hx hb dL_isSo_23 (by decide) ?_
    refine lv_istore (lv' := [(4, .int 0), (3, .int 0), (2, .int s0), (0, .ref (ad 0)), (1, .int x1)]) hx hb dL_isSo_24 hl (by decide) rfl (fun ls hl => ?_)
    refine lv_iconst (v := 0) hx hb dL_isSo_26 (by decide) ?_
    refine lv_istore (lv' := [(5, .int 0), (4, .int 0), (3, .int 0), (2, .int s0), (0, .ref (ad 0)), (1, .int x1)]) hx hb dL_isSo_27 hl (by decide) rfl (fun ls hl => ?_)
    refine lv_iconst (v := 0) hx hb dL_isSo_29 (by decide) ?_
    refine lv_istore (lv' := [(6, .int 0), (5, .int 0), (4, .int 0), (3, .int 0), (2, .int s0), (0, .ref (ad 0)), (1, .int x1)]) hx hb dL_isSo_30 hl (by decide) rfl (fun ls hl => ?_)
    obtain ⟨n9, hp⟩ := hp
    exact B_32 n9 x1 s0 0 0 0 0 (σ) _ _ _  hP hD hS (lv_sub hl [5, 6, 4, 3, 2, 1, 0] rfl) hp
  refine lv_aload_n hx hb dL_isSo_0 rfl (lv_at hl 0 rfl) ?_
  refine lv_iconst (v := 0) hx hb dL_isSo_1 (by decide) ?_
  refine fw_ciV (As := [.int 0]) (rest := []) hC (c0_X5_house l D k ad hp) (cwV 1 hts (gB_V B_5 (iB_A _ A_318) (iB_A _ A_319) (iB_A _ A_25) (iB_A _ A_298)) rfl rfl rfl (by decide +kernel) ⟨Nat.le_of_ble_eq_true rfl, Nat.le_of_ble_eq_true rfl⟩) (va_recv hK hP (ci := 5) (q0 := 0) rfl rfl) rfl hl.1 rfl (Nat.le_of_ble_eq_true rfl) dL_isSo_2 ⟨Nat.le_of_ble_eq_true rfl, Nat.le_of_ble_eq_true rfl⟩ hP hD hS Jn.same (fun r1 σ2 H locs hP hD hS hp => ?_)
  have hP : va_P D vwCl (W5 k ad (σ2)) H := hP
  have hD : va_D A (W5 k ad (σ2)) := hD
  refine lv_istore_n (lv' := [(1, .int r1), (0, .ref (ad 0))]) hx hb dL_isSo_5 rfl hl (by decide) rfl (fun ls hl => ?_)
  refine lv_aload_n hx hb dL_isSo_6 rfl (lv_at hl 1 rfl) ?_
  refine lv_iconst (v := 3) hx hb dL_isSo_7 (by decide) ?_
  refine fw_ciV (As := [.int 3]) (rest := []) hC (c0_X5_house l D k ad hp) (cwV 1 hts (gB_V B_5 (iB_A _ A_318) (iB_A _ A_319) (iB_A _ A_25) (iB_A _ A_298)) rfl rfl rfl (by decide +kernel) ⟨Nat.le_of_ble_eq_true rfl, Nat.le_of_ble_eq_true rfl⟩) (va_recv hK hP (ci := 5) (q0 := 0) rfl rfl) rfl hl.1 rfl (Nat.le_of_ble_eq_true rfl) dL_isSo_8 ⟨Nat.le_of_ble_eq_true rfl, Nat.le_of_ble_eq_true rfl⟩ hP hD hS Jn.same (fun r3 σ4 H locs hP hD hS hp => ?_)
  have hP : va_P D vwCl (W5 k ad (σ4)) H := hP
  have hD : va_D A (W5 k ad (σ4)) := hD
  refine lv_iconst (v := 1) hx hb dL_isSo_11 (by decide) ?_
  refine lv_icmp_ne (tgt := 19) hx hb dL_isSo_12 (by decide) (fun c5 => ?_) (fun c5 => ?_)
  · have hp := hp.1 c5
    refine lv_iconst (v := 0) hx hb dL_isSo_19 (by decide) ?_
    exact B_20 0 r1 (σ4) _ _ _  hP hD hS (lv_sub hl [1, 0] rfl) hp
  · have hp := hp.2 c5
    refine lv_iconst (v := 1) hx hb dL_isSo_15 (by decide) ?_
    refine lv_goto (tgt := 20) hx hb dL_isSo_16 (by decide) ?_
    exact B_20 1 r1 (σ4) _ _ _  hP hD hS (lv_sub hl [1, 0] rfl) hp
def q_L_isReason_130  (post : Int32 → Mem → Prop)  (σ : Mem) : Prop := post 1 (σ)
def q_L_isReason_124  (post : Int32 → Mem → Prop) (kE_122 : Mem → Prop) (kE_130 : Mem → Prop) (kc_41 : Int32 → Int32 → Mem → Prop) (x1 : Int32) (x2 : Int32) (σ : Mem) : Prop := (∀ v7001 : Int32, v7001 = x2 + 1 → kc_41 x1 v7001 (σ))
def q_L_isReason_122  (post : Int32 → Mem → Prop)  (σ : Mem) : Prop := post 0 (σ)
def q_L_isReason_81  (post : Int32 → Mem → Prop) (kE_122 : Mem → Prop) (kE_130 : Mem → Prop) (kc_41 : Int32 → Int32 → Mem → Prop) (s0 : Int32) (s1 : Int32) (x1 : Int32) (x2 : Int32) (x3 : Int32) (σ : Mem) : Prop := ((s1 ≠ s0 → kE_122 (σ)) ∧ (s1 = s0 → ((x3 = 0 → (q_L_isReason_124 post kE_122 kE_130 kc_41) x1 x2 (σ)) ∧ (¬ (x3 = 0) → (q_X5_ofLine (fun (r5003 : Int32) (σ5004 : Mem) => ((r5003 = 0 → kE_122 (σ5004)) ∧ (¬ (r5003 = 0) → (q_X5_ofLine (fun (r5006 : Int32) (σ5007 : Mem) => ((r5006 = 5 → kE_122 (σ5007)) ∧ (¬ (r5006 = 5) → (q_X5_met (fun (r5009 : Int32) (σ5010 : Mem) => ((r5009 ≠ 0 → (q_L_isReason_124 post kE_122 kE_130 kc_41) x1 x2 (σ5010)) ∧ (r5009 = 0 → kE_122 (σ5010)))) (fun _ _ => False) (x1 &&& (((1 : Int32) <<< (x2 &&& 31)) ^^^ (-1))) 0 (σ5007))))) (fun _ _ => False) x2 0 (σ5004))))) (fun _ _ => False) x2 5 (σ))))))
def q_L_isReason_64  (post : Int32 → Mem → Prop) (kE_122 : Mem → Prop) (kE_130 : Mem → Prop) (kc_41 : Int32 → Int32 → Mem → Prop) (s0 : Int32) (x1 : Int32) (x2 : Int32) (σ : Mem) : Prop := (q_X5_ofLine (fun (r4001 : Int32) (σ4002 : Mem) => ((s0 = 0 → (q_L_isReason_81 post kE_122 kE_130 kc_41) 0 r4001 x1 x2 s0 (σ4002)) ∧ (¬ (s0 = 0) → (q_L_isReason_81 post kE_122 kE_130 kc_41) 1 r4001 x1 x2 s0 (σ4002)))) (fun _ _ => False) x2 6 (σ))
def q_L_isReason_41  (post : Int32 → Mem → Prop) (kE_122 : Mem → Prop) (kE_130 : Mem → Prop) (kc_41 : Int32 → Int32 → Mem → Prop) (x1 : Int32) (x2 : Int32) (σ : Mem) : Prop := (q_X5_house (fun (r3001 : Int32) (σ3002 : Mem) => ((r3001 ≤ x2 → kE_130 (σ3002)) ∧ (¬ (r3001 ≤ x2) → ((((x1 >>> (x2 &&& 31)) &&& 1) ≠ 1 → (q_L_isReason_64 post kE_122 kE_130 kc_41) 0 x1 x2 (σ3002)) ∧ (((x1 >>> (x2 &&& 31)) &&& 1) = 1 → (q_L_isReason_64 post kE_122 kE_130 kc_41) 1 x1 x2 (σ3002)))))) (fun _ _ => False) 1 (σ))
def q_L_isReason_37  (post : Int32 → Mem → Prop)  (σ : Mem) : Prop := post 0 (σ)
def q_L_isReason_23  (post : Int32 → Mem → Prop)  (s0 : Int32) (σ : Mem) : Prop := (bz s0 ∧ post s0 (σ))
def q_L_isReason  (post : Int32 → Mem → Prop) (σ : Mem) : Prop := (q_X5_reason (fun (r1 : Int32) (σ2 : Mem) => (q_X5_house (fun (r3 : Int32) (σ4 : Mem) => ((r3 ≠ 0 → ((r1 = 0 → (q_L_isReason_37 post) (σ4)) ∧ (¬ (r1 = 0) → (q_X5_met (fun (r7 : Int32) (σ8 : Mem) => ((r7 = 0 → (∃ n9 : Nat, lp_3 (q_L_isReason_41 post (q_L_isReason_122 post) (q_L_isReason_130 post)) n9 r1 0 (σ8))) ∧ (¬ (r7 = 0) → (q_L_isReason_37 post) (σ8)))) (fun _ _ => False) r1 0 (σ4))))) ∧ (r3 = 0 → ((r1 ≠ 0 → (q_L_isReason_23 post) 0 (σ4)) ∧ (r1 = 0 → (q_L_isReason_23 post) 1 (σ4)))))) (fun _ _ => False) 3 (σ2))) (fun _ _ => False) (-1) (σ))
abbrev rm_L_isReason : Room := { frames := 7, cells := 0, slots := 0, locals := 222 }
abbrev wq_L_isReason : List Cond := Cond.code yL_isReason cL_isReason 4 (some .boolean) :: wLAW
set_option maxHeartbeats 4000000 in
set_option maxRecDepth 100000 in
theorem c_L_isReason (l : Launch) (D : va_G) (k ad : Nat → Nat) {sz : Nat} {σ : Mem} {post : Int32 → Mem → Prop} (hp : q_L_isReason post σ) : Met l yL_isReason wq_L_isReason rm_L_isReason (va_Pc [.ref (ad 0)] (Pw D k (W5 k ad (σ)) sz)) (va_Qi post (fun u => Bw D (W5 k ad (σ)) sz (W5 k ad u)) (va_A (W5 k ad (σ)) sz)) 0 0 (va_A (W5 k ad (σ)) sz) := by
  refine fw_i (wf := fun u : Mem => W5 k ad u) (by decide) rfl (Nat.le_of_ble_eq_true rfl) ?_
  intro p e s m args below meth c A Q ls hC hP hD hl hret
  obtain ⟨⟨hx, hb, hml, hown, hts⟩, hG, hA⟩ := id hC
  have hK := hG.1
  have hS : va_S A s.heap s.heap [] := va_S.rf
  have hl : lv_has ls 4 [(0, .ref (ad 0))] := hl
  have hown : s.vm.findClass RL = some m.cls := hown
  unfold q_L_isReason at hp
  have B_130 : ∀  (σ : Mem) (H : Heap) (locs : List Loc) (ls : Array Slot), va_P D vwCl (W5 k ad (σ)) H → va_D A (W5 k ad (σ)) → va_S A s.heap H locs → lv_has ls 4 [] → (q_L_isReason_130 post)  σ → W p l e rm_L_isReason s m args below meth c H locs 0 0 Q (F0 m 130 ls []) := by
    intro  σ H locs ls hP hD hS hl hp
    unfold q_L_isReason_130 at hp
    refine lv_iconst (v := 1) hx hb dL_isReason_130 (by decide) ?_
    exact hret 1 (σ) _ _ _ _ _ _ dL_isReason_131 (by decide) hP hD hS (Nat.le_of_ble_eq_true rfl) (Nat.le_of_ble_eq_true rfl) hp
  have B_122 : ∀  (σ : Mem) (H : Heap) (locs : List Loc) (ls : Array Slot), va_P D vwCl (W5 k ad (σ)) H → va_D A (W5 k ad (σ)) → va_S A s.heap H locs → lv_has ls 4 [] → (q_L_isReason_122 post)  σ → W p l e rm_L_isReason s m args below meth c H locs 0 0 Q (F0 m 122 ls []) := by
    intro  σ H locs ls hP hD hS hl hp
    unfold q_L_isReason_122 at hp
    refine lv_iconst (v := 0) hx hb dL_isReason_122 (by decide) ?_
    exact hret 0 (σ) _ _ _ _ _ _ dL_isReason_123 (by decide) hP hD hS (Nat.le_of_ble_eq_true rfl) (Nat.le_of_ble_eq_true rfl) hp
  have B_41 : ∀ (n_41 : Nat) (x1 : Int32) (x2 : Int32) (σ : Mem) (H : Heap) (locs : List Loc) (ls : Array Slot), va_P D vwCl (W5 k ad (σ)) H → va_D A (W5 k ad (σ)) → va_S A s.heap H locs → lv_has ls 4 [(0, .ref (ad 0)), (1, .int x1), (2, .int x2)] → lp_3 (q_L_isReason_41 post (q_L_isReason_122 post) (q_L_isReason_130 post)) n_41 x1 x2 σ → W p l e rm_L_isReason s m args below meth c H locs 0 0 Q (F0 m 41 ls []) := by
    intro n_41
    induction n_41 with
    | zero => intro x1 x2 σ H locs ls hP hD hS hl hp; exact hp.elim
    | succ n_41 ih_41 =>
      have B_124 : ∀ (x1 : Int32) (x2 : Int32) (σ : Mem) (H : Heap) (locs : List Loc) (ls : Array Slot), va_P D vwCl (W5 k ad (σ)) H → va_D A (W5 k ad (σ)) → va_S A s.heap H locs → lv_has ls 4 [(0, .ref (ad 0)), (1, .int x1), (2, .int x2)] → (q_L_isReason_124 post (q_L_isReason_122 post) (q_L_isReason_130 post) (lp_3 (q_L_isReason_41 post (q_L_isReason_122 post) (q_L_isReason_130 post)) n_41)) x1 x2 σ → W p l e rm_L_isReason s m args below meth c H locs 0 0 Q (F0 m 124 ls []) := by
        intro x1 x2 σ H locs ls hP hD hS hl hp
        unfold q_L_isReason_124 at hp
        obtain ⟨v70001, ev70001⟩ : ∃ z : Int32, z = x2 + 1 := ⟨_, rfl⟩
        have hp := hp v70001 ev70001
        refine lv_iinc (v := v70001) (lv' := [(2, .int v70001), (0, .ref (ad 0)), (1, .int x1)]) hx hb dL_isReason_124 hl (k := 2) rfl (by rw [ev70001]; rfl) (by decide) rfl (fun ls hl => ?_)
        refine lv_goto (tgt := 41) hx hb dL_isReason_127 (by decide) ?_
        exact ih_41 x1 v70001 (σ) _ _ _  hP hD hS (lv_sub hl [1, 2, 0] rfl) hp
      have B_81 : ∀ (s0 : Int32) (s1 : Int32) (x1 : Int32) (x2 : Int32) (x3 : Int32) (σ : Mem) (H : Heap) (locs : List Loc) (ls : Array Slot), va_P D vwCl (W5 k ad (σ)) H → va_D A (W5 k ad (σ)) → va_S A s.heap H locs → lv_has ls 4 [(0, .ref (ad 0)), (1, .int x1), (2, .int x2), (3, .int x3)] → (q_L_isReason_81 post (q_L_isReason_122 post) (q_L_isReason_130 post) (lp_3 (q_L_isReason_41 post (q_L_isReason_122 post) (q_L_isReason_130 post)) n_41)) s0 s1 x1 x2 x3 σ → W p l e rm_L_isReason s m args below meth c H locs 0 0 Q (F0 m 81 ls [.int s0, .int s1]) := by
        intro s0 s1 x1 x2 x3 σ H locs ls hP hD hS hl hp
        unfold q_L_isReason_81 at hp
        refine lv_icmp_ne (tgt := 122) hx hb dL_isReason_81 (by decide) (fun c50001 => ?_) (fun c50001 => ?_)
        · have hp := hp.1 c50001
          exact B_122  (σ) _ _ _  hP hD hS (lv_sub hl [] rfl) hp
        · have hp := hp.2 c50001
          refine lv_iload_n hx hb dL_isReason_84 rfl (lv_at hl 3 rfl) ?_
          refine lv_if_eq (tgt := 124) hx hb dL_isReason_85 (by decide) (fun c50002 => ?_) (fun c50002 => ?_)
          · have hp := hp.1 c50002
            exact B_124 x1 x2 (σ) _ _ _  hP hD hS (lv_sub hl [0, 1, 2] rfl) hp
          · have hp := hp.2 c50002
            refine lv_aload_n hx hb dL_isReason_88 rfl (lv_at hl 0 rfl) ?_
            refine lv_iload_n hx hb dL_isReason_89 rfl (lv_at hl 2 rfl) ?_
            refine lv_iconst (v := 5) hx hb dL_isReason_90 (by decide) ?_
            refine fw_ciV (As := [.int x2, .int 5]) (rest := []) hC (c0_X5_ofLine l D k ad hp) (cwV 2 hts (gB_V B_64 (iB_A _ A_327) (iB_A _ A_328) (iB_A _ A_25) (iB_A _ A_281)) rfl rfl rfl (by decide +kernel) ⟨Nat.le_of_ble_eq_true rfl, Nat.le_of_ble_eq_true rfl⟩) (va_recv hK hP (ci := 5) (q0 := 0) rfl rfl) rfl hl.1 rfl (Nat.le_of_ble_eq_true rfl) dL_isReason_91 ⟨Nat.le_of_ble_eq_true rfl, Nat.le_of_ble_eq_true rfl⟩ hP hD hS Jn.same (fun r50003 σ50004 H locs hP hD hS hp => ?_)
            have hP : va_P D vwCl (W5 k ad (σ50004)) H := hP
            have hD : va_D A (W5 k ad (σ50004)) := hD
            refine lv_if_eq (tgt := 122) hx hb dL_isReason_94 (by decide) (fun c50005 => ?_) (fun c50005 => ?_)
            · have hp := hp.1 c50005
              exact B_122  (σ50004) _ _ _  hP hD hS (lv_sub hl [] rfl) hp
            · have hp := hp.2 c50005
              refine lv_aload_n hx hb dL_isReason_97 rfl (lv_at hl 0 rfl) ?_
              refine lv_iload_n hx hb dL_isReason_98 rfl (lv_at hl 2 rfl) ?_
              refine lv_iconst (v := 0) hx hb dL_isReason_99 (by decide) ?_
              refine fw_ciV (As := [.int x2, .int 0]) (rest := []) hC (c0_X5_ofLine l D k ad hp) (cwV 2 hts (gB_V B_64 (iB_A _ A_327) (iB_A _ A_328) (iB_A _ A_25) (iB_A _ A_281)) rfl rfl rfl (by decide +kernel) ⟨Nat.le_of_ble_eq_true rfl, Nat.le_of_ble_eq_true rfl⟩) (va_recv hK hP (ci := 5) (q0 := 0) rfl rfl) rfl hl.1 rfl (Nat.le_of_ble_eq_true rfl) dL_isReason_100 ⟨Nat.le_of_ble_eq_true rfl, Nat.le_of_ble_eq_true rfl⟩ hP hD hS Jn.same (fun r50006 σ50007 H locs hP hD hS hp => ?_)
              have hP : va_P D vwCl (W5 k ad (σ50007)) H := hP
              have hD : va_D A (W5 k ad (σ50007)) := hD
              refine lv_iconst (v := 5) hx hb dL_isReason_103 (by decide) ?_
              refine lv_icmp_eq (tgt := 122) hx hb dL_isReason_104 (by decide) (fun c50008 => ?_) (fun c50008 => ?_)
              · have hp := hp.1 c50008
                exact B_122  (σ50007) _ _ _  hP hD hS (lv_sub hl [] rfl) hp
              · have hp := hp.2 c50008
                refine lv_aload_n hx hb dL_isReason_107 rfl (lv_at hl 0 rfl) ?_
                refine lv_iload_n hx hb dL_isReason_108 rfl (lv_at hl 1 rfl) ?_
                refine lv_iconst (v := 1) hx hb dL_isReason_109 (by decide) ?_
                refine lv_iload_n hx hb dL_isReason_110 rfl (lv_at hl 2 rfl) ?_
                refine lv_ishl hx hb dL_isReason_111 ?_
                refine lv_iconst (v := (-1)) hx hb dL_isReason_112 (by decide) ?_
                refine lv_ixor hx hb dL_isReason_113 ?_
                refine lv_iand hx hb dL_isReason_114 ?_
                refine lv_iconst (v := 0) hx hb dL_isReason_115 (by decide) ?_
                refine fw_ciV (As := [.int (x1 &&& (((1 : Int32) <<< (x2 &&& 31)) ^^^ (-1))), .int 0]) (rest := []) hC (c0_X5_met l D k ad hp) (cwV 2 hts (gB_V B_71 B_72 B_73 (iB_A _ A_25) (iB_A _ A_302)) rfl rfl rfl (by decide +kernel) ⟨Nat.le_of_ble_eq_true rfl, Nat.le_of_ble_eq_true rfl⟩) (va_recv hK hP (ci := 5) (q0 := 0) rfl rfl) rfl hl.1 rfl (Nat.le_of_ble_eq_true rfl) dL_isReason_116 ⟨Nat.le_of_ble_eq_true rfl, Nat.le_of_ble_eq_true rfl⟩ hP hD hS Jn.same (fun r50009 σ50010 H locs hP hD hS hp => ?_)
                have hP : va_P D vwCl (W5 k ad (σ50010)) H := hP
                have hD : va_D A (W5 k ad (σ50010)) := hD
                refine lv_if_ne (tgt := 124) hx hb dL_isReason_119 (by decide) (fun c50011 => ?_) (fun c50011 => ?_)
                · have hp := hp.1 c50011
                  exact B_124 x1 x2 (σ50010) _ _ _  hP hD hS (lv_sub hl [0, 1, 2] rfl) hp
                · have hp := hp.2 c50011
                  exact B_122  (σ50010) _ _ _  hP hD hS (lv_sub hl [] rfl) hp
      have B_64 : ∀ (s0 : Int32) (x1 : Int32) (x2 : Int32) (σ : Mem) (H : Heap) (locs : List Loc) (ls : Array Slot), va_P D vwCl (W5 k ad (σ)) H → va_D A (W5 k ad (σ)) → va_S A s.heap H locs → lv_has ls 4 [(0, .ref (ad 0)), (1, .int x1), (2, .int x2)] → (q_L_isReason_64 post (q_L_isReason_122 post) (q_L_isReason_130 post) (lp_3 (q_L_isReason_41 post (q_L_isReason_122 post) (q_L_isReason_130 post)) n_41)) s0 x1 x2 σ → W p l e rm_L_isReason s m args below meth c H locs 0 0 Q (F0 m 64 ls [.int s0]) := by
        intro s0 x1 x2 σ H locs ls hP hD hS hl hp
        unfold q_L_isReason_64 at hp
        refine lv_istore_n (lv' := [(3, .int s0), (0, .ref (ad 0)), (1, .int x1), (2, .int x2)]) hx hb dL_isReason_64 rfl hl (by decide) rfl (fun ls hl => ?_)
        refine lv_aload_n hx hb dL_isReason_65 rfl (lv_at hl 1 rfl) ?_
        refine lv_iload_n hx hb dL_isReason_66 rfl (lv_at hl 3 rfl) ?_
        refine lv_bipush (v := 6) hx hb dL_isReason_67 (by decide) ?_
        refine fw_ciV (As := [.int x2, .int 6]) (rest := []) hC (c0_X5_ofLine l D k ad hp) (cwV 2 hts (gB_V B_64 (iB_A _ A_327) (iB_A _ A_328) (iB_A _ A_25) (iB_A _ A_281)) rfl rfl rfl (by decide +kernel) ⟨Nat.le_of_ble_eq_true rfl, Nat.le_of_ble_eq_true rfl⟩) (va_recv hK hP (ci := 5) (q0 := 0) rfl rfl) rfl hl.1 rfl (Nat.le_of_ble_eq_true rfl) dL_isReason_69 ⟨Nat.le_of_ble_eq_true rfl, Nat.le_of_ble_eq_true rfl⟩ hP hD hS Jn.same (fun r40001 σ40002 H locs hP hD hS hp => ?_)
        have hP : va_P D vwCl (W5 k ad (σ40002)) H := hP
        have hD : va_D A (W5 k ad (σ40002)) := hD
        refine lv_iload_n hx hb dL_isReason_72 rfl (lv_at hl 0 rfl) ?_
        refine lv_if_eq (tgt := 80) hx hb dL_isReason_73 (by decide) (fun c40003 => ?_) (fun c40003 => ?_)
        · have hp := hp.1 c40003
          refine lv_iconst (v := 0) hx hb dL_isReason_80 (by decide) ?_
          exact B_81 0 r40001 x1 x2 s0 (σ40002) _ _ _  hP hD hS (lv_sub hl [1, 2, 3, 0] rfl) hp
        · have hp := hp.2 c40003
          refine lv_iconst (v := 1) hx hb dL_isReason_76 (by decide) ?_
          refine lv_goto (tgt := 81) hx hb dL_isReason_77 (by decide) ?_
          exact B_81 1 r40001 x1 x2 s0 (σ40002) _ _ _  hP hD hS (lv_sub hl [1, 2, 3, 0] rfl) hp
      intro x1 x2 σ H locs ls hP hD hS hl hp
      have hp : q_L_isReason_41 post (q_L_isReason_122 post) (q_L_isReason_130 post) (lp_3 (q_L_isReason_41 post (q_L_isReason_122 post) (q_L_isReason_130 post)) n_41) x1 x2 σ := hp
      unfold q_L_isReason_41 at hp
      refine lv_iload_n hx hb dL_isReason_41 rfl (lv_at hl 2 rfl) ?_
      refine lv_aload_n hx hb dL_isReason_42 rfl (lv_at hl 0 rfl) ?_
      refine lv_iconst (v := 1) hx hb dL_isReason_43 (by decide) ?_
      refine fw_ciV (As := [.int 1]) (rest := [.int x2]) hC (c0_X5_house l D k ad hp) (cwV 1 hts (gB_V B_5 (iB_A _ A_318) (iB_A _ A_319) (iB_A _ A_25) (iB_A _ A_298)) rfl rfl rfl (by decide +kernel) ⟨Nat.le_of_ble_eq_true rfl, Nat.le_of_ble_eq_true rfl⟩) (va_recv hK hP (ci := 5) (q0 := 0) rfl rfl) rfl hl.1 rfl (Nat.le_of_ble_eq_true rfl) dL_isReason_44 ⟨Nat.le_of_ble_eq_true rfl, Nat.le_of_ble_eq_true rfl⟩ hP hD hS Jn.same (fun r30001 σ30002 H locs hP hD hS hp => ?_)
      have hP : va_P D vwCl (W5 k ad (σ30002)) H := hP
      have hD : va_D A (W5 k ad (σ30002)) := hD
      refine lv_icmp_ge (tgt := 130) hx hb dL_isReason_47 (by decide) (fun c30003 => ?_) (fun c30003 => ?_)
      · have hp := hp.1 c30003
        exact B_130  (σ30002) _ _ _  hP hD hS (lv_sub hl [] rfl) hp
      · have hp := hp.2 c30003
        refine lv_iload_n hx hb dL_isReason_50 rfl (lv_at hl 1 rfl) ?_
        refine lv_iload_n hx hb dL_isReason_51 rfl (lv_at hl 2 rfl) ?_
        refine lv_ishr hx hb dL_isReason_52 ?_
        refine lv_iconst (v := 1) hx hb dL_isReason_53 (by decide) ?_
        refine lv_iand hx hb dL_isReason_54 ?_
        refine lv_iconst (v := 1) hx hb dL_isReason_55 (by decide) ?_
        refine lv_icmp_ne (tgt := 63) hx hb dL_isReason_56 (by decide) (fun c30004 => ?_) (fun c30004 => ?_)
        · have hp := hp.1 c30004
          refine lv_iconst (v := 0) hx hb dL_isReason_63 (by decide) ?_
          exact B_64 0 x1 x2 (σ30002) _ _ _  hP hD hS (lv_sub hl [0, 1, 2] rfl) hp
        · have hp := hp.2 c30004
          refine lv_iconst (v := 1) hx hb dL_isReason_59 (by decide) ?_
          refine lv_goto (tgt := 64) hx hb dL_isReason_60 (by decide) ?_
          exact B_64 1 x1 x2 (σ30002) _ _ _  hP hD hS (lv_sub hl [0, 1, 2] rfl) hp
  have B_37 : ∀  (σ : Mem) (H : Heap) (locs : List Loc) (ls : Array Slot), va_P D vwCl (W5 k ad (σ)) H → va_D A (W5 k ad (σ)) → va_S A s.heap H locs → lv_has ls 4 [] → (q_L_isReason_37 post)  σ → W p l e rm_L_isReason s m args below meth c H locs 0 0 Q (F0 m 37 ls []) := by
    intro  σ H locs ls hP hD hS hl hp
    unfold q_L_isReason_37 at hp
    refine lv_iconst (v := 0) hx hb dL_isReason_37 (by decide) ?_
    exact hret 0 (σ) _ _ _ _ _ _ dL_isReason_38 (by decide) hP hD hS (Nat.le_of_ble_eq_true rfl) (Nat.le_of_ble_eq_true rfl) hp
  have B_23 : ∀ (s0 : Int32) (σ : Mem) (H : Heap) (locs : List Loc) (ls : Array Slot), va_P D vwCl (W5 k ad (σ)) H → va_D A (W5 k ad (σ)) → va_S A s.heap H locs → lv_has ls 4 [] → (q_L_isReason_23 post) s0 σ → W p l e rm_L_isReason s m args below meth c H locs 0 0 Q (F0 m 23 ls [.int s0]) := by
    intro s0 σ H locs ls hP hD hS hl hp
    unfold q_L_isReason_23 at hp
    exact hret s0 (σ) _ _ _ _ _ _ dL_isReason_23 hp.1.1 hP hD hS (Nat.le_of_ble_eq_true rfl) (Nat.le_of_ble_eq_true rfl) hp.2
  refine lv_aload_n hx hb dL_isReason_0 rfl (lv_at hl 0 rfl) ?_
  refine lv_iconst (v := (-1)) hx hb dL_isReason_1 (by decide) ?_
  refine fw_ciV (As := [.int (-1)]) (rest := []) hC (c0_X5_reason l D k ad hp) (cwV 1 hts (gB_V B_70 (iB_A _ A_324) (iB_A _ A_325) (iB_A _ A_25) (iB_A _ A_299)) rfl rfl rfl (by decide +kernel) ⟨Nat.le_of_ble_eq_true rfl, Nat.le_of_ble_eq_true rfl⟩) (va_recv hK hP (ci := 5) (q0 := 0) rfl rfl) rfl hl.1 rfl (Nat.le_of_ble_eq_true rfl) dL_isReason_2 ⟨Nat.le_of_ble_eq_true rfl, Nat.le_of_ble_eq_true rfl⟩ hP hD hS Jn.same (fun r1 σ2 H locs hP hD hS hp => ?_)
  have hP : va_P D vwCl (W5 k ad (σ2)) H := hP
  have hD : va_D A (W5 k ad (σ2)) := hD
  refine lv_istore_n (lv' := [(1, .int r1), (0, .ref (ad 0))]) hx hb dL_isReason_5 rfl hl (by decide) rfl (fun ls hl => ?_)
  refine lv_aload_n hx hb dL_isReason_6 rfl (lv_at hl 1 rfl) ?_
  refine lv_iconst (v := 3) hx hb dL_isReason_7 (by decide) ?_
  refine fw_ciV (As := [.int 3]) (rest := []) hC (c0_X5_house l D k ad hp) (cwV 1 hts (gB_V B_5 (iB_A _ A_318) (iB_A _ A_319) (iB_A _ A_25) (iB_A _ A_298)) rfl rfl rfl (by decide +kernel) ⟨Nat.le_of_ble_eq_true rfl, Nat.le_of_ble_eq_true rfl⟩) (va_recv hK hP (ci := 5) (q0 := 0) rfl rfl) rfl hl.1 rfl (Nat.le_of_ble_eq_true rfl) dL_isReason_8 ⟨Nat.le_of_ble_eq_true rfl, Nat.le_of_ble_eq_true rfl⟩ hP hD hS Jn.same (fun r3 σ4 H locs hP hD hS hp => ?_)
  have hP : va_P D vwCl (W5 k ad (σ4)) H := hP
  have hD : va_D A (W5 k ad (σ4)) := hD
  refine lv_if_ne (tgt := 24) hx hb dL_isReason_11 (by decide) (fun c5 => ?_) (fun c5 => ?_)
  · have hp := hp.1 c5
    refine lv_iload_n hx hb dL_isReason_24 rfl (lv_at hl 0 rfl) ?_
    refine lv_if_eq (tgt := 37) hx hb dL_isReason_25 (by decide) (fun c6 => ?_) (fun c6 => ?_)
    · have hp := hp.1 c6
      exact B_37  (σ4) _ _ _  hP hD hS (lv_sub hl [] rfl) hp
    · have hp := hp.2 c6
      refine lv_aload_n hx hb dL_isReason_28 rfl (lv_at hl 1 rfl) ?_
      refine lv_iload_n hx hb dL_isReason_29 rfl (lv_at hl 0 rfl) ?_
      refine lv_iconst (v := 0) hx hb dL_isReason_30 (by decide) ?_
      refine fw_ciV (As := [.int r1, .int 0]) (rest := []) hC (c0_X5_met l D k ad hp) (cwV 2 hts (gB_V B_71 B_72 B_73 (iB_A _ A_25) (iB_A _ A_302)) rfl rfl rfl (by decide +kernel) ⟨Nat.le_of_ble_eq_true rfl, Nat.le_of_ble_eq_true rfl⟩) (va_recv hK hP (ci := 5) (q0 := 0) rfl rfl) rfl hl.1 rfl (Nat.le_of_ble_eq_true rfl) dL_isReason_31 ⟨Nat.le_of_ble_eq_true rfl, Nat.le_of_ble_eq_true rfl⟩ hP hD hS Jn.same (fun r7 σ8 H locs hP hD hS hp => ?_)
      have hP : va_P D vwCl (W5 k ad (σ8)) H := hP
      have hD : va_D A (W5 k ad (σ8)) := hD
      refine lv_if_eq (tgt := 39) hx hb dL_isReason_34 (by decide) (fun c9 => ?_) (fun c9 => ?_)
      · have hp := hp.1 c9
        refine lv_iconst (v := 0) hx hb dL_isReason_39 (by decide) ?_
        refine lv_istore_n (lv' := [(2, .int 0), (1, .int r1), (0, .ref (ad 0))]) hx hb dL_isReason_40 rfl hl (by decide) rfl (fun ls hl => ?_)
        obtain ⟨n9, hp⟩ := hp
        exact B_41 n9 r1 0 (σ8) _ _ _  hP hD hS (lv_sub hl [2, 1, 0] rfl) hp
      · have hp := hp.2 c9
        exact B_37  (σ8) _ _ _  hP hD hS (lv_sub hl [] rfl) hp
  · have hp := hp.2 c5
    refine lv_iload_n hx hb dL_isReason_14 rfl (lv_at hl 0 rfl) ?_
    refine lv_if_ne (tgt := 22) hx hb dL_isReason_15 (by decide) (fun c10 => ?_) (fun c10 => ?_)
    · have hp := hp.1 c10
      refine lv_iconst (v := 0) hx hb dL_isReason_22 (by decide) ?_
      exact B_23 0 (σ4) _ _ _  hP hD hS (lv_sub hl [] rfl) hp
    · have hp := hp.2 c10
      refine lv_iconst (v := 1) hx hb dL_isReason_18 (by decide) ?_
      refine lv_goto (tgt := 23) hx hb dL_isReason_19 (by decide) ?_
      exact B_23 1 (σ4) _ _ _  hP hD hS (lv_sub hl [] rfl) hp
def q_L_tell_312  (post : Int32 → Mem → Prop)  (s0 : Int32) (σ : Mem) : Prop := (bz s0 ∧ post s0 (σ))
def q_L_tell_297  (post : Int32 → Mem → Prop)  (σ : Mem) : Prop := (q_X5_house (fun (r5001 : Int32) (σ5002 : Mem) => ((r5001 ≠ 30 → (q_L_tell_312 post) 0 (σ5002)) ∧ (r5001 = 30 → (q_L_tell_312 post) 1 (σ5002)))) (fun _ _ => False) 1 (σ))
def q_L_tell_293  (post : Int32 → Mem → Prop)  (σ : Mem) : Prop := post 1 (σ)
def q_L_tell_268  (post : Int32 → Mem → Prop)  (s0 : Int32) (s1 : Int32) (s2 : Int32) (s3 : Int32) (σ : Mem) : Prop := (q_X5_bound (fun (r3001 : Int32) (σ3002 : Mem) => (q_L_tell_293 post) (σ3002)) (fun (E : String) (σ3003 : Mem) => (E = eIS ∧ (q_L_tell_297 post) (σ3003))) s3 s2 s1 s0 (σ))
def q_L_tell_227  (post : Int32 → Mem → Prop)  (s0 : Int32) (s1 : Int32) (s2 : Int32) (s3 : Int32) (σ : Mem) : Prop := (q_X5_more (fun (r2001 : Int32) (σ2002 : Mem) => (q_L_tell_293 post) (σ2002)) (fun (E : String) (σ2003 : Mem) => (E = eIS ∧ (q_L_tell_297 post) (σ2003))) s3 s2 s1 s0 (σ))
def q_L_tell_61  (post : Int32 → Mem → Prop)  (s0 : Int32) (x1 : Int32) (x2 : Int32) (x3 : Int32) (σ : Mem) : Prop := (q_L_below (fun (r1001 : Int32) (σ1002 : Mem) => (q_L_below (fun (r1003 : Int32) (σ1004 : Mem) => ((sw_out r1003 8 → (q_L_below (fun (r1007 : Int32) (σ1008 : Mem) => (q_X5_preset (fun (r1009 : Int32) (σ1010 : Mem) => (q_L_tell_293 post) (σ1010)) (fun (E : String) (σ1011 : Mem) => (E = eIS ∧ (q_L_tell_297 post) (σ1011))) s0 x2 r1001 r1007 (σ))) (x1 >>> (6 &&& 31)) 4 (σ))) ∧ (r1003 = nI 0 → (q_L_below (fun (r1012 : Int32) (σ1013 : Mem) => (q_X5_oneOf (fun (r1014 : Int32) (σ1015 : Mem) => (q_L_tell_293 post) (σ1015)) (fun (E : String) (σ1016 : Mem) => (E = eIS ∧ (q_L_tell_297 post) (σ1016))) s0 x2 ((1 : Int32) + r1012) (σ))) (x1 >>> (6 &&& 31)) 255 (σ))) ∧ (r1003 = nI 1 → (¬ (2 : Int32) = 0 ∧ (q_X5_bound (fun (r1018 : Int32) (σ1019 : Mem) => (q_L_tell_293 post) (σ1019)) (fun (E : String) (σ1020 : Mem) => (E = eIS ∧ (q_L_tell_297 post) (σ1020))) s0 x2 (r1001 / (2 : Int32)) 0 (σ)))) ∧ (r1003 = nI 2 → (¬ (2 : Int32) = 0 ∧ (q_X5_bound (fun (r1022 : Int32) (σ1023 : Mem) => (q_L_tell_293 post) (σ1023)) (fun (E : String) (σ1024 : Mem) => (E = eIS ∧ (q_L_tell_297 post) (σ1024))) s0 x2 ((7 : Int32) - (r1001 / (2 : Int32))) 1 (σ)))) ∧ (r1003 = nI 3 → (q_L_below (fun (r1025 : Int32) (σ1026 : Mem) => ((r1025 ≠ 0 → (q_L_below (fun (r1028 : Int32) (σ1029 : Mem) => (q_L_tell_227 post) (r1028 - 7) x3 x2 s0 (σ)) (x1 >>> (8 &&& 31)) 15 (σ))) ∧ (r1025 = 0 → (q_L_below (fun (r1030 : Int32) (σ1031 : Mem) => (q_L_tell_227 post) (r1030 - 2) x3 x2 s0 (σ)) (x1 >>> (8 &&& 31)) 5 (σ))))) (x1 >>> (6 &&& 31)) 2 (σ))) ∧ (r1003 = nI 4 → (q_L_below (fun (r1032 : Int32) (σ1033 : Mem) => ((r1032 ≠ 0 → (q_L_below (fun (r1035 : Int32) (σ1036 : Mem) => (q_L_tell_227 post) (r1035 - 7) x3 x2 s0 (σ)) (x1 >>> (8 &&& 31)) 15 (σ))) ∧ (r1032 = 0 → (q_L_below (fun (r1037 : Int32) (σ1038 : Mem) => (q_L_tell_227 post) (r1037 - 2) x3 x2 s0 (σ)) (x1 >>> (8 &&& 31)) 5 (σ))))) (x1 >>> (6 &&& 31)) 2 (σ))) ∧ (r1003 = nI 5 → (q_X5_unlike (fun (r1039 : Int32) (σ1040 : Mem) => (q_L_tell_293 post) (σ1040)) (fun (E : String) (σ1041 : Mem) => (E = eIS ∧ (q_L_tell_297 post) (σ1041))) s0 x2 x3 (σ))) ∧ (r1003 = nI 6 → (q_X5_unlike (fun (r1042 : Int32) (σ1043 : Mem) => (q_L_tell_293 post) (σ1043)) (fun (E : String) (σ1044 : Mem) => (E = eIS ∧ (q_L_tell_297 post) (σ1044))) s0 x2 x3 (σ))) ∧ (r1003 = nI 7 → (q_L_below (fun (r1045 : Int32) (σ1046 : Mem) => ((r1045 ≠ 0 → (q_L_tell_268 post) 0 r1001 x2 s0 (σ)) ∧ (r1045 = 0 → (q_L_tell_268 post) 1 r1001 x2 s0 (σ)))) (x1 >>> (8 &&& 31)) 2 (σ))))) (x1 >>> (2 &&& 31)) 10 (σ))) (x1 >>> (9 &&& 31)) 8 (σ))
def q_L_tell  (post : Int32 → Mem → Prop) (p2 : Int32) (σ : Mem) : Prop := (q_X5_house (fun (r1 : Int32) (σ2 : Mem) => (q_L_below (fun (r3 : Int32) (σ4 : Mem) => (q_X5_house (fun (r5 : Int32) (σ6 : Mem) => (q_L_below (fun (r7 : Int32) (σ8 : Mem) => (q_X5_house (fun (r9 : Int32) (σ10 : Mem) => (¬ r9 = 0 ∧ (∀ v12 : Int32, v12 = (((r3 + 1) + r7) - ((r3 + 1) + r7) / r9 * r9) → (q_L_below (fun (r13 : Int32) (σ14 : Mem) => ((r13 ≠ 0 → (q_X5_ofField (fun (r16 : Int32) (σ17 : Mem) => (q_L_tell_61 post) r16 p2 r3 v12 (σ17)) (fun _ _ => False) r3 0 (σ10))) ∧ (r13 = 0 → (q_L_below (fun (r18 : Int32) (σ19 : Mem) => (q_L_tell_61 post) r18 p2 r3 v12 (σ10)) (p2 >>> (7 &&& 31)) 4 (σ10))))) (p2 >>> (5 &&& 31)) 5 (σ10))))) (fun _ _ => False) 0 (σ6))) (p2 >>> (3 &&& 31)) (r5 - 1) (σ6))) (fun _ _ => False) 0 (σ2))) p2 r1 (σ2))) (fun _ _ => False) 0 (σ))
abbrev rm_L_tell : Room := { frames := 21, cells := 1, slots := 6, locals := 957 }
abbrev wq_L_tell : List Cond := Cond.codeWith yL_tell cL_tell 7 (some .boolean) [(74, 294, 295, 54)] :: wLAW
set_option maxHeartbeats 4000000 in
set_option maxRecDepth 100000 in
theorem c_L_tell (l : Launch) (hflag : l.stackTraces = false) (D : va_G) (k ad : Nat → Nat) {sz : Nat} {σ : Mem} {p2 : Int32} {post : Int32 → Mem → Prop} (hp : q_L_tell post p2 σ) : Met l yL_tell wq_L_tell rm_L_tell (va_Pc [.ref (ad 0), .int p2] (Pw D k (W5 k ad (σ)) sz)) (va_Qi post (fun u => Bw D (W5 k ad (σ)) sz (W5 k ad u)) (va_A (W5 k ad (σ)) sz)) 1 6 (va_A (W5 k ad (σ)) sz) := by
  refine fw_X (wf := fun u : Mem => W5 k ad u) (by decide) rfl (Nat.le_of_ble_eq_true rfl) ?_
  intro p e s m args below meth c A Q ls hC htb hP hD hl hret
  obtain ⟨⟨hx, hb, hml, hown, hts⟩, hG, hA⟩ := id hC
  have hK := hG.1
  have hS : va_S A s.heap s.heap [] := va_S.rf
  have hl : lv_has ls 7 [(0, .ref (ad 0)), (1, .int p2)] := hl
  have hown : s.vm.findClass RL = some m.cls := hown
  unfold q_L_tell at hp
  have B_312 : ∀ (s0 : Int32) (σ : Mem) (H : Heap) (locs : List Loc) (ls : Array Slot), va_P D vwCl (W5 k ad (σ)) H → va_D A (W5 k ad (σ)) → va_S A s.heap H locs → lv_has ls 7 [] → (q_L_tell_312 post) s0 σ → W p l e rm_L_tell s m args below meth c H locs 1 6 Q (F0 m 312 ls [.int s0]) := by
    intro s0 σ H locs ls hP hD hS hl hp
    unfold q_L_tell_312 at hp
    exact hret s0 (σ) _ _ _ _ _ _ dL_tell_312 hp.1.1 hP hD hS (Nat.le_of_ble_eq_true rfl) (Nat.le_of_ble_eq_true rfl) hp.2
  have B_297 : ∀  (σ : Mem) (H : Heap) (locs : List Loc) (ls : Array Slot), va_P D vwCl (W5 k ad (σ)) H → va_D A (W5 k ad (σ)) → va_S A s.heap H locs → lv_has ls 7 [(0, .ref (ad 0))] → (q_L_tell_297 post)  σ → W p l e rm_L_tell s m args below meth c H locs 1 6 Q (F0 m 297 ls []) := by
    intro  σ H locs ls hP hD hS hl hp
    unfold q_L_tell_297 at hp
    refine lv_aload_n hx hb dL_tell_297 rfl (lv_at hl 0 rfl) ?_
    refine lv_iconst (v := 1) hx hb dL_tell_298 (by decide) ?_
    refine fw_ciV (As := [.int 1]) (rest := []) hC (c0_X5_house l D k ad hp) (cwV 1 hts (gB_V B_5 (iB_A _ A_318) (iB_A _ A_319) (iB_A _ A_25) (iB_A _ A_298)) rfl rfl rfl (by decide +kernel) ⟨Nat.le_of_ble_eq_true rfl, Nat.le_of_ble_eq_true rfl⟩) (va_recv hK hP (ci := 5) (q0 := 0) rfl rfl) rfl hl.1 rfl (Nat.le_of_ble_eq_true rfl) dL_tell_299 ⟨Nat.le_of_ble_eq_true rfl, Nat.le_of_ble_eq_true rfl⟩ hP hD hS Jn.same (fun r50001 σ50002 H locs hP hD hS hp => ?_)
    have hP : va_P D vwCl (W5 k ad (σ50002)) H := hP
    have hD : va_D A (W5 k ad (σ50002)) := hD
    refine lv_bipush (v := 30) hx hb dL_tell_302 (by decide) ?_
    refine lv_icmp_ne (tgt := 311) hx hb dL_tell_304 (by decide) (fun c50003 => ?_) (fun c50003 => ?_)
    · have hp := hp.1 c50003
      refine lv_iconst (v := 0) hx hb dL_tell_311 (by decide) ?_
      exact B_312 0 (σ50002) _ _ _  hP hD hS (lv_sub hl [] rfl) hp
    · have hp := hp.2 c50003
      refine lv_iconst (v := 1) hx hb dL_tell_307 (by decide) ?_
      refine lv_goto (tgt := 312) hx hb dL_tell_308 (by decide) ?_
      exact B_312 1 (σ50002) _ _ _  hP hD hS (lv_sub hl [] rfl) hp
  have B_293 : ∀  (σ : Mem) (H : Heap) (locs : List Loc) (ls : Array Slot), va_P D vwCl (W5 k ad (σ)) H → va_D A (W5 k ad (σ)) → va_S A s.heap H locs → lv_has ls 7 [] → (q_L_tell_293 post)  σ → W p l e rm_L_tell s m args below meth c H locs 1 6 Q (F0 m 293 ls []) := by
    intro  σ H locs ls hP hD hS hl hp
    unfold q_L_tell_293 at hp
    refine lv_iconst (v := 1) hx hb dL_tell_293 (by decide) ?_
    exact hret 1 (σ) _ _ _ _ _ _ dL_tell_294 (by decide) hP hD hS (Nat.le_of_ble_eq_true rfl) (Nat.le_of_ble_eq_true rfl) hp
  have B_268 : ∀ (s0 : Int32) (s1 : Int32) (s2 : Int32) (s3 : Int32) (σ : Mem) (H : Heap) (locs : List Loc) (ls : Array Slot), va_P D vwCl (W5 k ad (σ)) H → va_D A (W5 k ad (σ)) → va_S A s.heap H locs → lv_has ls 7 [(0, .ref (ad 0))] → (q_L_tell_268 post) s0 s1 s2 s3 σ → W p l e rm_L_tell s m args below meth c H locs 0 0 Q (F0 m 268 ls [.int s0, .int s1, .int s2, .int s3, .ref (ad 0)]) := by
    intro s0 s1 s2 s3 σ H locs ls hP hD hS hl hp
    unfold q_L_tell_268 at hp
    have hFc := va_free0 hD hS hA
    refine vx_calli (vx_runV (g := F0 m 268 ls [.int s0, .int s1, .int s2, .int s3, .ref (ad 0)]) (As := [.int s3, .int s2, .int s1, .int s0]) (rest := []) hC.1 (c_X5_bound l hflag D k ad hp) (cwV 4 hts (gB_V B_13 B_14 B_15 (iB_A _ A_25) (iB_A _ A_225)) rfl rfl rfl (by decide +kernel) ⟨Nat.le_of_ble_eq_true rfl, Nat.le_of_ble_eq_true rfl⟩) ⟨Pw_blind, va_recv hK hP (ci := 5) (q0 := 0) rfl rfl, fw_pre hC hP hD hS⟩ rfl rfl hl.1 rfl (lv_room (Nat.le_of_ble_eq_true rfl)) dL_tell_268 ⟨Nat.le_of_ble_eq_true rfl, Nat.le_of_ble_eq_true rfl⟩) hS (fun q _ h => hFc q h) hFc (fun q _ h => hFc q h) ?_ ?_
    · intro E ce q9 u t H1 locs1 ht hvm hpx hB hz hk hS1 hcell hcv hcl
      obtain ⟨E1, σ30003⟩ := u
      obtain ⟨hE, hP1, hD1⟩ := hB
      subst hE
      rw [ht] at hP1
      obtain ⟨hP, hD⟩ := (Jn.same : Jn D A (W5 k ad (σ)) H (fun u : Mem => W5 k ad u) (fun u : Mem => W5 k ad u)) σ30003 H1 hP1 hD1 hz hk hFc
      obtain ⟨rfl, hp⟩ := hpx
      have hS := hS1
      refine vx_catch (name := eIS) (E := eIS) hown [] (tbE (74, 294, 295, 54)) [] htb (fun z hz => by simp at hz) rfl (by decide) (hts _ (List.mem_cons_of_mem _ B_4)) (va_Nw.use rfl (GG.nc hG (q := ("java/lang/IllegalStateException", "java/lang/IllegalStateException")) 1 rfl)) hcell hcv hcl ?_
      refine lv_astore (lv' := [(6, .ref q9), (0, .ref (ad 0))]) hx hb dL_tell_295 hl (by decide) rfl (fun ls hl => ?_)
      exact B_297  (σ30003) _ _ _  hP hD hS (lv_sub hl [1] rfl) hp
    · intro r30001 σ30002 t H1 locs1 ht hvm hp hB hz hk hS1
      obtain ⟨hP1, hD1⟩ := hB
      rw [ht] at hP1
      obtain ⟨hP, hD⟩ := (Jn.same : Jn D A (W5 k ad (σ)) H (fun u : Mem => W5 k ad u) (fun u : Mem => W5 k ad u)) σ30002 H1 hP1 hD1 hz hk hFc
      have hS := hS1
      refine lv_pop hx hb dL_tell_271 rfl ?_
      refine lv_goto (tgt := 293) hx hb dL_tell_272 (by decide) ?_
      exact B_293  (σ30002) _ _ _  hP hD hS (lv_sub hl [] rfl) hp
  have B_227 : ∀ (s0 : Int32) (s1 : Int32) (s2 : Int32) (s3 : Int32) (σ : Mem) (H : Heap) (locs : List Loc) (ls : Array Slot), va_P D vwCl (W5 k ad (σ)) H → va_D A (W5 k ad (σ)) → va_S A s.heap H locs → lv_has ls 7 [(0, .ref (ad 0))] → (q_L_tell_227 post) s0 s1 s2 s3 σ → W p l e rm_L_tell s m args below meth c H locs 0 0 Q (F0 m 227 ls [.int s0, .int s1, .int s2, .int s3, .ref (ad 0)]) := by
    intro s0 s1 s2 s3 σ H locs ls hP hD hS hl hp
    unfold q_L_tell_227 at hp
    have hFc := va_free0 hD hS hA
    refine vx_calli (vx_runV (g := F0 m 227 ls [.int s0, .int s1, .int s2, .int s3, .ref (ad 0)]) (As := [.int s3, .int s2, .int s1, .int s0]) (rest := []) hC.1 (c_X5_more l hflag D k ad hp) (cwV 4 hts (gB_V B_16 B_17 B_18 (iB_A _ A_25) (iB_A _ A_226)) rfl rfl rfl (by decide +kernel) ⟨Nat.le_of_ble_eq_true rfl, Nat.le_of_ble_eq_true rfl⟩) ⟨Pw_blind, va_recv hK hP (ci := 5) (q0 := 0) rfl rfl, fw_pre hC hP hD hS⟩ rfl rfl hl.1 rfl (lv_room (Nat.le_of_ble_eq_true rfl)) dL_tell_227 ⟨Nat.le_of_ble_eq_true rfl, Nat.le_of_ble_eq_true rfl⟩) hS (fun q _ h => hFc q h) hFc (fun q _ h => hFc q h) ?_ ?_
    · intro E ce q9 u t H1 locs1 ht hvm hpx hB hz hk hS1 hcell hcv hcl
      obtain ⟨E1, σ20003⟩ := u
      obtain ⟨hE, hP1, hD1⟩ := hB
      subst hE
      rw [ht] at hP1
      obtain ⟨hP, hD⟩ := (Jn.same : Jn D A (W5 k ad (σ)) H (fun u : Mem => W5 k ad u) (fun u : Mem => W5 k ad u)) σ20003 H1 hP1 hD1 hz hk hFc
      obtain ⟨rfl, hp⟩ := hpx
      have hS := hS1
      refine vx_catch (name := eIS) (E := eIS) hown [] (tbE (74, 294, 295, 54)) [] htb (fun z hz => by simp at hz) rfl (by decide) (hts _ (List.mem_cons_of_mem _ B_4)) (va_Nw.use rfl (GG.nc hG (q := ("java/lang/IllegalStateException", "java/lang/IllegalStateException")) 1 rfl)) hcell hcv hcl ?_
      refine lv_astore (lv' := [(6, .ref q9), (0, .ref (ad 0))]) hx hb dL_tell_295 hl (by decide) rfl (fun ls hl => ?_)
      exact B_297  (σ20003) _ _ _  hP hD hS (lv_sub hl [1] rfl) hp
    · intro r20001 σ20002 t H1 locs1 ht hvm hp hB hz hk hS1
      obtain ⟨hP1, hD1⟩ := hB
      rw [ht] at hP1
      obtain ⟨hP, hD⟩ := (Jn.same : Jn D A (W5 k ad (σ)) H (fun u : Mem => W5 k ad u) (fun u : Mem => W5 k ad u)) σ20002 H1 hP1 hD1 hz hk hFc
      have hS := hS1
      refine lv_pop hx hb dL_tell_230 rfl ?_
      refine lv_goto (tgt := 293) hx hb dL_tell_231 (by decide) ?_
      exact B_293  (σ20002) _ _ _  hP hD hS (lv_sub hl [] rfl) hp
  have B_61 : ∀ (s0 : Int32) (x1 : Int32) (x2 : Int32) (x3 : Int32) (σ : Mem) (H : Heap) (locs : List Loc) (ls : Array Slot), va_P D vwCl (W5 k ad (σ)) H → va_D A (W5 k ad (σ)) → va_S A s.heap H locs → lv_has ls 7 [(0, .ref (ad 0)), (1, .int x1), (2, .int x2), (3, .int x3)] → (q_L_tell_61 post) s0 x1 x2 x3 σ → W p l e rm_L_tell s m args below meth c H locs 0 0 Q (F0 m 61 ls [.int s0]) := by
    intro s0 x1 x2 x3 σ H locs ls hP hD hS hl hp
    unfold q_L_tell_61 at hp
    refine lv_istore (lv' := [(4, .int s0), (0, .ref (ad 0)), (1, .int x1), (2, .int x2), (3, .int x3)]) hx hb dL_tell_61 hl (by decide) rfl (fun ls hl => ?_)
    refine lv_iload_n hx hb dL_tell_63 rfl (lv_at hl 2 rfl) ?_
    refine lv_bipush (v := 9) hx hb dL_tell_64 (by decide) ?_
    refine lv_ishr hx hb dL_tell_66 ?_
    refine lv_bipush (v := 8) hx hb dL_tell_67 (by decide) ?_
    refine fw_ciS (As := [.int (x1 >>> (9 &&& 31)), .int 8]) (rest := []) hC (c_L_below l D k hp) (va_cwS 2 hts (gB_L B_6 B_7 B_8 B_0) rfl rfl rfl (by decide +kernel) ⟨Nat.le_of_ble_eq_true rfl, Nat.le_of_ble_eq_true rfl⟩) rfl hl.1 rfl (Nat.le_of_ble_eq_true rfl) dL_tell_69 ⟨Nat.le_of_ble_eq_true rfl, Nat.le_of_ble_eq_true rfl⟩ P_nil D_nil hS (Jn.pure (w0 := fun _ : Mem => []) hP hD) (fun r10001 σ10002 H locs hP hD hS hp => ?_)
    have hP : va_P D vwCl (W5 k ad (σ)) H := hP
    have hD : va_D A (W5 k ad (σ)) := hD
    refine lv_istore (lv' := [(5, .int r10001), (4, .int s0), (0, .ref (ad 0)), (1, .int x1), (2, .int x2), (3, .int x3)]) hx hb dL_tell_72 hl (by decide) rfl (fun ls hl => ?_)
    refine lv_iload_n hx hb dL_tell_74 rfl (lv_at hl 3 rfl) ?_
    refine lv_iconst (v := 2) hx hb dL_tell_75 (by decide) ?_
    refine lv_ishr hx hb dL_tell_76 ?_
    refine lv_bipush (v := 10) hx hb dL_tell_77 (by decide) ?_
    refine fw_ciS (As := [.int (x1 >>> (2 &&& 31)), .int 10]) (rest := []) hC (c_L_below l D k hp) (va_cwS 2 hts (gB_L B_6 B_7 B_8 B_0) rfl rfl rfl (by decide +kernel) ⟨Nat.le_of_ble_eq_true rfl, Nat.le_of_ble_eq_true rfl⟩) rfl hl.1 rfl (Nat.le_of_ble_eq_true rfl) dL_tell_79 ⟨Nat.le_of_ble_eq_true rfl, Nat.le_of_ble_eq_true rfl⟩ P_nil D_nil hS (Jn.pure (w0 := fun _ : Mem => []) hP hD) (fun r10003 σ10004 H locs hP hD hS hp => ?_)
    have hP : va_P D vwCl (W5 k ad (σ)) H := hP
    have hD : va_D A (W5 k ad (σ)) := hD
    rcases sw_in r10003 8 (by decide) with c10005 | ⟨j10006, hj10006, ej10006⟩
    · have hp := hp.1 c10005
      refine lv_tableOut (tgt := 275) hx hb dL_tell_82 (sw_of c10005) (by decide) ?_
      refine lv_aload_n hx hb dL_tell_275 rfl (lv_at hl 2 rfl) ?_
      refine lv_iload hx hb dL_tell_276 (lv_at hl 1 rfl) ?_
      refine lv_iload_n hx hb dL_tell_278 rfl (lv_at hl 4 rfl) ?_
      refine lv_iload hx hb dL_tell_279 (lv_at hl 0 rfl) ?_
      refine lv_iload_n hx hb dL_tell_281 rfl (lv_at hl 3 rfl) ?_
      refine lv_bipush (v := 6) hx hb dL_tell_282 (by decide) ?_
      refine lv_ishr hx hb dL_tell_284 ?_
      refine lv_iconst (v := 4) hx hb dL_tell_285 (by decide) ?_
      refine fw_ciS (As := [.int (x1 >>> (6 &&& 31)), .int 4]) (rest := [.int r10001, .int x2, .int s0, .ref (ad 0)]) hC (c_L_below l D k hp) (va_cwS 2 hts (gB_L B_6 B_7 B_8 B_0) rfl rfl rfl (by decide +kernel) ⟨Nat.le_of_ble_eq_true rfl, Nat.le_of_ble_eq_true rfl⟩) rfl hl.1 rfl (Nat.le_of_ble_eq_true rfl) dL_tell_286 ⟨Nat.le_of_ble_eq_true rfl, Nat.le_of_ble_eq_true rfl⟩ P_nil D_nil hS (Jn.pure (w0 := fun _ : Mem => []) hP hD) (fun r10007 σ10008 H locs hP hD hS hp => ?_)
      have hP : va_P D vwCl (W5 k ad (σ)) H := hP
      have hD : va_D A (W5 k ad (σ)) := hD
      have hFc := va_free0 hD hS hA
      refine vx_calli (vx_runV (g := F0 m 289 ls [.int r10007, .int r10001, .int x2, .int s0, .ref (ad 0)]) (As := [.int s0, .int x2, .int r10001, .int r10007]) (rest := []) hC.1 (c_X5_preset l hflag D k ad hp) (cwV 4 hts (gB_V B_22 B_23 B_24 (iB_A _ A_25) (iB_A _ A_228)) rfl rfl rfl (by decide +kernel) ⟨Nat.le_of_ble_eq_true rfl, Nat.le_of_ble_eq_true rfl⟩) ⟨Pw_blind, va_recv hK hP (ci := 5) (q0 := 0) rfl rfl, fw_pre hC hP hD hS⟩ rfl rfl hl.1 rfl (lv_room (Nat.le_of_ble_eq_true rfl)) dL_tell_289 ⟨Nat.le_of_ble_eq_true rfl, Nat.le_of_ble_eq_true rfl⟩) hS (fun q _ h => hFc q h) hFc (fun q _ h => hFc q h) ?_ ?_
      · intro E ce q9 u t H1 locs1 ht hvm hpx hB hz hk hS1 hcell hcv hcl
        obtain ⟨E1, σ10011⟩ := u
        obtain ⟨hE, hP1, hD1⟩ := hB
        subst hE
        rw [ht] at hP1
        obtain ⟨hP, hD⟩ := (Jn.same : Jn D A (W5 k ad (σ)) H (fun u : Mem => W5 k ad u) (fun u : Mem => W5 k ad u)) σ10011 H1 hP1 hD1 hz hk hFc
        obtain ⟨rfl, hp⟩ := hpx
        have hS := hS1
        refine vx_catch (name := eIS) (E := eIS) hown [] (tbE (74, 294, 295, 54)) [] htb (fun z hz => by simp at hz) rfl (by decide) (hts _ (List.mem_cons_of_mem _ B_4)) (va_Nw.use rfl (GG.nc hG (q := ("java/lang/IllegalStateException", "java/lang/IllegalStateException")) 1 rfl)) hcell hcv hcl ?_
        refine lv_astore (lv' := [(6, .ref q9), (5, .int r10001), (4, .int s0), (0, .ref (ad 0)), (1, .int x1), (2, .int x2), (3, .int x3)]) hx hb dL_tell_295 hl (by decide) rfl (fun ls hl => ?_)
        exact B_297  (σ10011) _ _ _  hP hD hS (lv_sub hl [3] rfl) hp
      · intro r10009 σ10010 t H1 locs1 ht hvm hp hB hz hk hS1
        obtain ⟨hP1, hD1⟩ := hB
        rw [ht] at hP1
        obtain ⟨hP, hD⟩ := (Jn.same : Jn D A (W5 k ad (σ)) H (fun u : Mem => W5 k ad u) (fun u : Mem => W5 k ad u)) σ10010 H1 hP1 hD1 hz hk hFc
        have hS := hS1
        refine lv_pop hx hb dL_tell_292 rfl ?_
        exact B_293  (σ10010) _ _ _  hP hD hS (lv_sub hl [] rfl) hp
    · have hp := hp.2
      rcases (show j10006 = 0 ∨ j10006 = 1 ∨ j10006 = 2 ∨ j10006 = 3 ∨ j10006 = 4 ∨ j10006 = 5 ∨ j10006 = 6 ∨ j10006 = 7 by omega) with rfl | rfl | rfl | rfl | rfl | rfl | rfl | rfl
      · have hp := hp.1 ej10006
        refine lv_tableIn (tgt := 128) (off := 46) hx hb dL_tell_82 (by rw [ej10006]; decide) (by rw [ej10006]; decide) (by rw [ej10006]; rfl) (by decide) ?_
        refine lv_aload_n hx hb dL_tell_128 rfl (lv_at hl 2 rfl) ?_
        refine lv_iload hx hb dL_tell_129 (lv_at hl 1 rfl) ?_
        refine lv_iload_n hx hb dL_tell_131 rfl (lv_at hl 4 rfl) ?_
        refine lv_iconst (v := 1) hx hb dL_tell_132 (by decide) ?_
        refine lv_iload_n hx hb dL_tell_133 rfl (lv_at hl 3 rfl) ?_
        refine lv_bipush (v := 6) hx hb dL_tell_134 (by decide) ?_
        refine lv_ishr hx hb dL_tell_136 ?_
        refine lv_sipush (v := 255) hx hb dL_tell_137 (by decide) ?_
        refine fw_ciS (As := [.int (x1 >>> (6 &&& 31)), .int 255]) (rest := [.int 1, .int x2, .int s0, .ref (ad 0)]) hC (c_L_below l D k hp) (va_cwS 2 hts (gB_L B_6 B_7 B_8 B_0) rfl rfl rfl (by decide +kernel) ⟨Nat.le_of_ble_eq_true rfl, Nat.le_of_ble_eq_true rfl⟩) rfl hl.1 rfl (Nat.le_of_ble_eq_true rfl) dL_tell_140 ⟨Nat.le_of_ble_eq_true rfl, Nat.le_of_ble_eq_true rfl⟩ P_nil D_nil hS (Jn.pure (w0 := fun _ : Mem => []) hP hD) (fun r10012 σ10013 H locs hP hD hS hp => ?_)
        have hP : va_P D vwCl (W5 k ad (σ)) H := hP
        have hD : va_D A (W5 k ad (σ)) := hD
        refine lv_iadd hx hb dL_tell_143 ?_
        have hFc := va_free0 hD hS hA
        refine vx_calli (vx_runV (g := F0 m 144 ls [.int ((1 : Int32) + r10012), .int x2, .int s0, .ref (ad 0)]) (As := [.int s0, .int x2, .int ((1 : Int32) + r10012)]) (rest := []) hC.1 (c_X5_oneOf l hflag D k ad hp) (cwV 3 hts (gB_V B_10 B_11 B_12 (iB_A _ A_25) (iB_A _ A_221)) rfl rfl rfl (by decide +kernel) ⟨Nat.le_of_ble_eq_true rfl, Nat.le_of_ble_eq_true rfl⟩) ⟨Pw_blind, va_recv hK hP (ci := 5) (q0 := 0) rfl rfl, fw_pre hC hP hD hS⟩ rfl rfl hl.1 rfl (lv_room (Nat.le_of_ble_eq_true rfl)) dL_tell_144 ⟨Nat.le_of_ble_eq_true rfl, Nat.le_of_ble_eq_true rfl⟩) hS (fun q _ h => hFc q h) hFc (fun q _ h => hFc q h) ?_ ?_
        · intro E ce q9 u t H1 locs1 ht hvm hpx hB hz hk hS1 hcell hcv hcl
          obtain ⟨E1, σ10016⟩ := u
          obtain ⟨hE, hP1, hD1⟩ := hB
          subst hE
          rw [ht] at hP1
          obtain ⟨hP, hD⟩ := (Jn.same : Jn D A (W5 k ad (σ)) H (fun u : Mem => W5 k ad u) (fun u : Mem => W5 k ad u)) σ10016 H1 hP1 hD1 hz hk hFc
          obtain ⟨rfl, hp⟩ := hpx
          have hS := hS1
          refine vx_catch (name := eIS) (E := eIS) hown [] (tbE (74, 294, 295, 54)) [] htb (fun z hz => by simp at hz) rfl (by decide) (hts _ (List.mem_cons_of_mem _ B_4)) (va_Nw.use rfl (GG.nc hG (q := ("java/lang/IllegalStateException", "java/lang/IllegalStateException")) 1 rfl)) hcell hcv hcl ?_
          refine lv_astore (lv' := [(6, .ref q9), (5, .int r10001), (4, .int s0), (0, .ref (ad 0)), (1, .int x1), (2, .int x2), (3, .int x3)]) hx hb dL_tell_295 hl (by decide) rfl (fun ls hl => ?_)
          exact B_297  (σ10016) _ _ _  hP hD hS (lv_sub hl [3] rfl) hp
        · intro r10014 σ10015 t H1 locs1 ht hvm hp hB hz hk hS1
          obtain ⟨hP1, hD1⟩ := hB
          rw [ht] at hP1
          obtain ⟨hP, hD⟩ := (Jn.same : Jn D A (W5 k ad (σ)) H (fun u : Mem => W5 k ad u) (fun u : Mem => W5 k ad u)) σ10015 H1 hP1 hD1 hz hk hFc
          have hS := hS1
          refine lv_pop hx hb dL_tell_147 rfl ?_
          refine lv_goto (tgt := 293) hx hb dL_tell_148 (by decide) ?_
          exact B_293  (σ10015) _ _ _  hP hD hS (lv_sub hl [] rfl) hp
      · have hp := hp.2.1 ej10006
        refine lv_tableIn (tgt := 151) (off := 69) hx hb dL_tell_82 (by rw [ej10006]; decide) (by rw [ej10006]; decide) (by rw [ej10006]; rfl) (by decide) ?_
        refine lv_aload_n hx hb dL_tell_151 rfl (lv_at hl 2 rfl) ?_
        refine lv_iload hx hb dL_tell_152 (lv_at hl 1 rfl) ?_
        refine lv_iload_n hx hb dL_tell_154 rfl (lv_at hl 4 rfl) ?_
        refine lv_iload hx hb dL_tell_155 (lv_at hl 0 rfl) ?_
        refine lv_iconst (v := 2) hx hb dL_tell_157 (by decide) ?_
        obtain ⟨h10017, hp⟩ := hp
        refine lv_idiv hx hb dL_tell_158 h10017 ?_
        refine lv_iconst (v := 0) hx hb dL_tell_159 (by decide) ?_
        have hFc := va_free0 hD hS hA
        refine vx_calli (vx_runV (g := F0 m 160 ls [.int 0, .int (r10001 / (2 : Int32)), .int x2, .int s0, .ref (ad 0)]) (As := [.int s0, .int x2, .int (r10001 / (2 : Int32)), .int 0]) (rest := []) hC.1 (c_X5_bound l hflag D k ad hp) (cwV 4 hts (gB_V B_13 B_14 B_15 (iB_A _ A_25) (iB_A _ A_225)) rfl rfl rfl (by decide +kernel) ⟨Nat.le_of_ble_eq_true rfl, Nat.le_of_ble_eq_true rfl⟩) ⟨Pw_blind, va_recv hK hP (ci := 5) (q0 := 0) rfl rfl, fw_pre hC hP hD hS⟩ rfl rfl hl.1 rfl (lv_room (Nat.le_of_ble_eq_true rfl)) dL_tell_160 ⟨Nat.le_of_ble_eq_true rfl, Nat.le_of_ble_eq_true rfl⟩) hS (fun q _ h => hFc q h) hFc (fun q _ h => hFc q h) ?_ ?_
        · intro E ce q9 u t H1 locs1 ht hvm hpx hB hz hk hS1 hcell hcv hcl
          obtain ⟨E1, σ10020⟩ := u
          obtain ⟨hE, hP1, hD1⟩ := hB
          subst hE
          rw [ht] at hP1
          obtain ⟨hP, hD⟩ := (Jn.same : Jn D A (W5 k ad (σ)) H (fun u : Mem => W5 k ad u) (fun u : Mem => W5 k ad u)) σ10020 H1 hP1 hD1 hz hk hFc
          obtain ⟨rfl, hp⟩ := hpx
          have hS := hS1
          refine vx_catch (name := eIS) (E := eIS) hown [] (tbE (74, 294, 295, 54)) [] htb (fun z hz => by simp at hz) rfl (by decide) (hts _ (List.mem_cons_of_mem _ B_4)) (va_Nw.use rfl (GG.nc hG (q := ("java/lang/IllegalStateException", "java/lang/IllegalStateException")) 1 rfl)) hcell hcv hcl ?_
          refine lv_astore (lv' := [(6, .ref q9), (5, .int r10001), (4, .int s0), (0, .ref (ad 0)), (1, .int x1), (2, .int x2), (3, .int x3)]) hx hb dL_tell_295 hl (by decide) rfl (fun ls hl => ?_)
          exact B_297  (σ10020) _ _ _  hP hD hS (lv_sub hl [3] rfl) hp
        · intro r10018 σ10019 t H1 locs1 ht hvm hp hB hz hk hS1
          obtain ⟨hP1, hD1⟩ := hB
          rw [ht] at hP1
          obtain ⟨hP, hD⟩ := (Jn.same : Jn D A (W5 k ad (σ)) H (fun u : Mem => W5 k ad u) (fun u : Mem => W5 k ad u)) σ10019 H1 hP1 hD1 hz hk hFc
          have hS := hS1
          refine lv_pop hx hb dL_tell_163 rfl ?_
          refine lv_goto (tgt := 293) hx hb dL_tell_164 (by decide) ?_
          exact B_293  (σ10019) _ _ _  hP hD hS (lv_sub hl [] rfl) hp
      · have hp := hp.2.2.1 ej10006
        refine lv_tableIn (tgt := 167) (off := 85) hx hb dL_tell_82 (by rw [ej10006]; decide) (by rw [ej10006]; decide) (by rw [ej10006]; rfl) (by decide) ?_
        refine lv_aload_n hx hb dL_tell_167 rfl (lv_at hl 2 rfl) ?_
        refine lv_iload hx hb dL_tell_168 (lv_at hl 1 rfl) ?_
        refine lv_iload_n hx hb dL_tell_170 rfl (lv_at hl 4 rfl) ?_
        refine lv_bipush (v := 7) hx hb dL_tell_171 (by decide) ?_
        refine lv_iload hx hb dL_tell_173 (lv_at hl 0 rfl) ?_
        refine lv_iconst (v := 2) hx hb dL_tell_175 (by decide) ?_
        obtain ⟨h10021, hp⟩ := hp
        refine lv_idiv hx hb dL_tell_176 h10021 ?_
        refine lv_isub hx hb dL_tell_177 ?_
        refine lv_iconst (v := 1) hx hb dL_tell_178 (by decide) ?_
        have hFc := va_free0 hD hS hA
        refine vx_calli (vx_runV (g := F0 m 179 ls [.int 1, .int ((7 : Int32) - (r10001 / (2 : Int32))), .int x2, .int s0, .ref (ad 0)]) (As := [.int s0, .int x2, .int ((7 : Int32) - (r10001 / (2 : Int32))), .int 1]) (rest := []) hC.1 (c_X5_bound l hflag D k ad hp) (cwV 4 hts (gB_V B_13 B_14 B_15 (iB_A _ A_25) (iB_A _ A_225)) rfl rfl rfl (by decide +kernel) ⟨Nat.le_of_ble_eq_true rfl, Nat.le_of_ble_eq_true rfl⟩) ⟨Pw_blind, va_recv hK hP (ci := 5) (q0 := 0) rfl rfl, fw_pre hC hP hD hS⟩ rfl rfl hl.1 rfl (lv_room (Nat.le_of_ble_eq_true rfl)) dL_tell_179 ⟨Nat.le_of_ble_eq_true rfl, Nat.le_of_ble_eq_true rfl⟩) hS (fun q _ h => hFc q h) hFc (fun q _ h => hFc q h) ?_ ?_
        · intro E ce q9 u t H1 locs1 ht hvm hpx hB hz hk hS1 hcell hcv hcl
          obtain ⟨E1, σ10024⟩ := u
          obtain ⟨hE, hP1, hD1⟩ := hB
          subst hE
          rw [ht] at hP1
          obtain ⟨hP, hD⟩ := (Jn.same : Jn D A (W5 k ad (σ)) H (fun u : Mem => W5 k ad u) (fun u : Mem => W5 k ad u)) σ10024 H1 hP1 hD1 hz hk hFc
          obtain ⟨rfl, hp⟩ := hpx
          have hS := hS1
          refine vx_catch (name := eIS) (E := eIS) hown [] (tbE (74, 294, 295, 54)) [] htb (fun z hz => by simp at hz) rfl (by decide) (hts _ (List.mem_cons_of_mem _ B_4)) (va_Nw.use rfl (GG.nc hG (q := ("java/lang/IllegalStateException", "java/lang/IllegalStateException")) 1 rfl)) hcell hcv hcl ?_
          refine lv_astore (lv' := [(6, .ref q9), (5, .int r10001), (4, .int s0), (0, .ref (ad 0)), (1, .int x1), (2, .int x2), (3, .int x3)]) hx hb dL_tell_295 hl (by decide) rfl (fun ls hl => ?_)
          exact B_297  (σ10024) _ _ _  hP hD hS (lv_sub hl [3] rfl) hp
        · intro r10022 σ10023 t H1 locs1 ht hvm hp hB hz hk hS1
          obtain ⟨hP1, hD1⟩ := hB
          rw [ht] at hP1
          obtain ⟨hP, hD⟩ := (Jn.same : Jn D A (W5 k ad (σ)) H (fun u : Mem => W5 k ad u) (fun u : Mem => W5 k ad u)) σ10023 H1 hP1 hD1 hz hk hFc
          have hS := hS1
          refine lv_pop hx hb dL_tell_182 rfl ?_
          refine lv_goto (tgt := 293) hx hb dL_tell_183 (by decide) ?_
          exact B_293  (σ10023) _ _ _  hP hD hS (lv_sub hl [] rfl) hp
      · have hp := hp.2.2.2.1 ej10006
        refine lv_tableIn (tgt := 186) (off := 104) hx hb dL_tell_82 (by rw [ej10006]; decide) (by rw [ej10006]; decide) (by rw [ej10006]; rfl) (by decide) ?_
        refine lv_aload_n hx hb dL_tell_186 rfl (lv_at hl 2 rfl) ?_
        refine lv_iload hx hb dL_tell_187 (lv_at hl 1 rfl) ?_
        refine lv_iload_n hx hb dL_tell_189 rfl (lv_at hl 4 rfl) ?_
        refine lv_iload_n hx hb dL_tell_190 rfl (lv_at hl 5 rfl) ?_
        refine lv_iload_n hx hb dL_tell_191 rfl (lv_at hl 3 rfl) ?_
        refine lv_bipush (v := 6) hx hb dL_tell_192 (by decide) ?_
        refine lv_ishr hx hb dL_tell_194 ?_
        refine lv_iconst (v := 2) hx hb dL_tell_195 (by decide) ?_
        refine fw_ciS (As := [.int (x1 >>> (6 &&& 31)), .int 2]) (rest := [.int x3, .int x2, .int s0, .ref (ad 0)]) hC (c_L_below l D k hp) (va_cwS 2 hts (gB_L B_6 B_7 B_8 B_0) rfl rfl rfl (by decide +kernel) ⟨Nat.le_of_ble_eq_true rfl, Nat.le_of_ble_eq_true rfl⟩) rfl hl.1 rfl (Nat.le_of_ble_eq_true rfl) dL_tell_196 ⟨Nat.le_of_ble_eq_true rfl, Nat.le_of_ble_eq_true rfl⟩ P_nil D_nil hS (Jn.pure (w0 := fun _ : Mem => []) hP hD) (fun r10025 σ10026 H locs hP hD hS hp => ?_)
        have hP : va_P D vwCl (W5 k ad (σ)) H := hP
        have hD : va_D A (W5 k ad (σ)) := hD
        refine lv_if_ne (tgt := 215) hx hb dL_tell_199 (by decide) (fun c10027 => ?_) (fun c10027 => ?_)
        · have hp := hp.1 c10027
          refine lv_iload_n hx hb dL_tell_215 rfl (lv_at hl 3 rfl) ?_
          refine lv_bipush (v := 8) hx hb dL_tell_216 (by decide) ?_
          refine lv_ishr hx hb dL_tell_218 ?_
          refine lv_bipush (v := 15) hx hb dL_tell_219 (by decide) ?_
          refine fw_ciS (As := [.int (x1 >>> (8 &&& 31)), .int 15]) (rest := [.int x3, .int x2, .int s0, .ref (ad 0)]) hC (c_L_below l D k hp) (va_cwS 2 hts (gB_L B_6 B_7 B_8 B_0) rfl rfl rfl (by decide +kernel) ⟨Nat.le_of_ble_eq_true rfl, Nat.le_of_ble_eq_true rfl⟩) rfl hl.1 rfl (Nat.le_of_ble_eq_true rfl) dL_tell_221 ⟨Nat.le_of_ble_eq_true rfl, Nat.le_of_ble_eq_true rfl⟩ P_nil D_nil hS (Jn.pure (w0 := fun _ : Mem => []) hP hD) (fun r10028 σ10029 H locs hP hD hS hp => ?_)
          have hP : va_P D vwCl (W5 k ad (σ)) H := hP
          have hD : va_D A (W5 k ad (σ)) := hD
          refine lv_bipush (v := 7) hx hb dL_tell_224 (by decide) ?_
          refine lv_isub hx hb dL_tell_226 ?_
          exact B_227 (r10028 - 7) x3 x2 s0 (σ) _ _ _  hP hD hS (lv_sub hl [2] rfl) hp
        · have hp := hp.2 c10027
          refine lv_iload_n hx hb dL_tell_202 rfl (lv_at hl 3 rfl) ?_
          refine lv_bipush (v := 8) hx hb dL_tell_203 (by decide) ?_
          refine lv_ishr hx hb dL_tell_205 ?_
          refine lv_iconst (v := 5) hx hb dL_tell_206 (by decide) ?_
          refine fw_ciS (As := [.int (x1 >>> (8 &&& 31)), .int 5]) (rest := [.int x3, .int x2, .int s0, .ref (ad 0)]) hC (c_L_below l D k hp) (va_cwS 2 hts (gB_L B_6 B_7 B_8 B_0) rfl rfl rfl (by decide +kernel) ⟨Nat.le_of_ble_eq_true rfl, Nat.le_of_ble_eq_true rfl⟩) rfl hl.1 rfl (Nat.le_of_ble_eq_true rfl) dL_tell_207 ⟨Nat.le_of_ble_eq_true rfl, Nat.le_of_ble_eq_true rfl⟩ P_nil D_nil hS (Jn.pure (w0 := fun _ : Mem => []) hP hD) (fun r10030 σ10031 H locs hP hD hS hp => ?_)
          have hP : va_P D vwCl (W5 k ad (σ)) H := hP
          have hD : va_D A (W5 k ad (σ)) := hD
          refine lv_iconst (v := 2) hx hb dL_tell_210 (by decide) ?_
          refine lv_isub hx hb dL_tell_211 ?_
          refine lv_goto (tgt := 227) hx hb dL_tell_212 (by decide) ?_
          exact B_227 (r10030 - 2) x3 x2 s0 (σ) _ _ _  hP hD hS (lv_sub hl [2] rfl) hp
      · have hp := hp.2.2.2.2.1 ej10006
        refine lv_tableIn (tgt := 186) (off := 104) hx hb dL_tell_82 (by rw [ej10006]; decide) (by rw [ej10006]; decide) (by rw [ej10006]; rfl) (by decide) ?_
        refine lv_aload_n hx hb dL_tell_186 rfl (lv_at hl 2 rfl) ?_
        refine lv_iload hx hb dL_tell_187 (lv_at hl 1 rfl) ?_
        refine lv_iload_n hx hb dL_tell_189 rfl (lv_at hl 4 rfl) ?_
        refine lv_iload_n hx hb dL_tell_190 rfl (lv_at hl 5 rfl) ?_
        refine lv_iload_n hx hb dL_tell_191 rfl (lv_at hl 3 rfl) ?_
        refine lv_bipush (v := 6) hx hb dL_tell_192 (by decide) ?_
        refine lv_ishr hx hb dL_tell_194 ?_
        refine lv_iconst (v := 2) hx hb dL_tell_195 (by decide) ?_
        refine fw_ciS (As := [.int (x1 >>> (6 &&& 31)), .int 2]) (rest := [.int x3, .int x2, .int s0, .ref (ad 0)]) hC (c_L_below l D k hp) (va_cwS 2 hts (gB_L B_6 B_7 B_8 B_0) rfl rfl rfl (by decide +kernel) ⟨Nat.le_of_ble_eq_true rfl, Nat.le_of_ble_eq_true rfl⟩) rfl hl.1 rfl (Nat.le_of_ble_eq_true rfl) dL_tell_196 ⟨Nat.le_of_ble_eq_true rfl, Nat.le_of_ble_eq_true rfl⟩ P_nil D_nil hS (Jn.pure (w0 := fun _ : Mem => []) hP hD) (fun r10032 σ10033 H locs hP hD hS hp => ?_)
        have hP : va_P D vwCl (W5 k ad (σ)) H := hP
        have hD : va_D A (W5 k ad (σ)) := hD
        refine lv_if_ne (tgt := 215) hx hb dL_tell_199 (by decide) (fun c10034 => ?_) (fun c10034 => ?_)
        · have hp := hp.1 c10034
          refine lv_iload_n hx hb dL_tell_215 rfl (lv_at hl 3 rfl) ?_
          refine lv_bipush (v := 8) hx hb dL_tell_216 (by decide) ?_
          refine lv_ishr hx hb dL_tell_218 ?_
          refine lv_bipush (v := 15) hx hb dL_tell_219 (by decide) ?_
          refine fw_ciS (As := [.int (x1 >>> (8 &&& 31)), .int 15]) (rest := [.int x3, .int x2, .int s0, .ref (ad 0)]) hC (c_L_below l D k hp) (va_cwS 2 hts (gB_L B_6 B_7 B_8 B_0) rfl rfl rfl (by decide +kernel) ⟨Nat.le_of_ble_eq_true rfl, Nat.le_of_ble_eq_true rfl⟩) rfl hl.1 rfl (Nat.le_of_ble_eq_true rfl) dL_tell_221 ⟨Nat.le_of_ble_eq_true rfl, Nat.le_of_ble_eq_true rfl⟩ P_nil D_nil hS (Jn.pure (w0 := fun _ : Mem => []) hP hD) (fun r10035 σ10036 H locs hP hD hS hp => ?_)
          have hP : va_P D vwCl (W5 k ad (σ)) H := hP
          have hD : va_D A (W5 k ad (σ)) := hD
          refine lv_bipush (v := 7) hx hb dL_tell_224 (by decide) ?_
          refine lv_isub hx hb dL_tell_226 ?_
          exact B_227 (r10035 - 7) x3 x2 s0 (σ) _ _ _  hP hD hS (lv_sub hl [2] rfl) hp
        · have hp := hp.2 c10034
          refine lv_iload_n hx hb dL_tell_202 rfl (lv_at hl 3 rfl) ?_
          refine lv_bipush (v := 8) hx hb dL_tell_203 (by decide) ?_
          refine lv_ishr hx hb dL_tell_205 ?_
          refine lv_iconst (v := 5) hx hb dL_tell_206 (by decide) ?_
          refine fw_ciS (As := [.int (x1 >>> (8 &&& 31)), .int 5]) (rest := [.int x3, .int x2, .int s0, .ref (ad 0)]) hC (c_L_below l D k hp) (va_cwS 2 hts (gB_L B_6 B_7 B_8 B_0) rfl rfl rfl (by decide +kernel) ⟨Nat.le_of_ble_eq_true rfl, Nat.le_of_ble_eq_true rfl⟩) rfl hl.1 rfl (Nat.le_of_ble_eq_true rfl) dL_tell_207 ⟨Nat.le_of_ble_eq_true rfl, Nat.le_of_ble_eq_true rfl⟩ P_nil D_nil hS (Jn.pure (w0 := fun _ : Mem => []) hP hD) (fun r10037 σ10038 H locs hP hD hS hp => ?_)
          have hP : va_P D vwCl (W5 k ad (σ)) H := hP
          have hD : va_D A (W5 k ad (σ)) := hD
          refine lv_iconst (v := 2) hx hb dL_tell_210 (by decide) ?_
          refine lv_isub hx hb dL_tell_211 ?_
          refine lv_goto (tgt := 227) hx hb dL_tell_212 (by decide) ?_
          exact B_227 (r10037 - 2) x3 x2 s0 (σ) _ _ _  hP hD hS (lv_sub hl [2] rfl) hp
      · have hp := hp.2.2.2.2.2.1 ej10006
        refine lv_tableIn (tgt := 234) (off := 152) hx hb dL_tell_82 (by rw [ej10006]; decide) (by rw [ej10006]; decide) (by rw [ej10006]; rfl) (by decide) ?_
        refine lv_aload_n hx hb dL_tell_234 rfl (lv_at hl 2 rfl) ?_
        refine lv_iload hx hb dL_tell_235 (lv_at hl 1 rfl) ?_
        refine lv_iload_n hx hb dL_tell_237 rfl (lv_at hl 4 rfl) ?_
        refine lv_iload_n hx hb dL_tell_238 rfl (lv_at hl 5 rfl) ?_
        have hFc := va_free0 hD hS hA
        refine vx_calli (vx_runV (g := F0 m 239 ls [.int x3, .int x2, .int s0, .ref (ad 0)]) (As := [.int s0, .int x2, .int x3]) (rest := []) hC.1 (c_X5_unlike l hflag D k ad hp) (cwV 3 hts (gB_V B_19 B_20 B_21 (iB_A _ A_25) (iB_A _ A_227)) rfl rfl rfl (by decide +kernel) ⟨Nat.le_of_ble_eq_true rfl, Nat.le_of_ble_eq_true rfl⟩) ⟨Pw_blind, va_recv hK hP (ci := 5) (q0 := 0) rfl rfl, fw_pre hC hP hD hS⟩ rfl rfl hl.1 rfl (lv_room (Nat.le_of_ble_eq_true rfl)) dL_tell_239 ⟨Nat.le_of_ble_eq_true rfl, Nat.le_of_ble_eq_true rfl⟩) hS (fun q _ h => hFc q h) hFc (fun q _ h => hFc q h) ?_ ?_
        · intro E ce q9 u t H1 locs1 ht hvm hpx hB hz hk hS1 hcell hcv hcl
          obtain ⟨E1, σ10041⟩ := u
          obtain ⟨hE, hP1, hD1⟩ := hB
          subst hE
          rw [ht] at hP1
          obtain ⟨hP, hD⟩ := (Jn.same : Jn D A (W5 k ad (σ)) H (fun u : Mem => W5 k ad u) (fun u : Mem => W5 k ad u)) σ10041 H1 hP1 hD1 hz hk hFc
          obtain ⟨rfl, hp⟩ := hpx
          have hS := hS1
          refine vx_catch (name := eIS) (E := eIS) hown [] (tbE (74, 294, 295, 54)) [] htb (fun z hz => by simp at hz) rfl (by decide) (hts _ (List.mem_cons_of_mem _ B_4)) (va_Nw.use rfl (GG.nc hG (q := ("java/lang/IllegalStateException", "java/lang/IllegalStateException")) 1 rfl)) hcell hcv hcl ?_
          refine lv_astore (lv' := [(6, .ref q9), (5, .int r10001), (4, .int s0), (0, .ref (ad 0)), (1, .int x1), (2, .int x2), (3, .int x3)]) hx hb dL_tell_295 hl (by decide) rfl (fun ls hl => ?_)
          exact B_297  (σ10041) _ _ _  hP hD hS (lv_sub hl [3] rfl) hp
        · intro r10039 σ10040 t H1 locs1 ht hvm hp hB hz hk hS1
          obtain ⟨hP1, hD1⟩ := hB
          rw [ht] at hP1
          obtain ⟨hP, hD⟩ := (Jn.same : Jn D A (W5 k ad (σ)) H (fun u : Mem => W5 k ad u) (fun u : Mem => W5 k ad u)) σ10040 H1 hP1 hD1 hz hk hFc
          have hS := hS1
          refine lv_pop hx hb dL_tell_242 rfl ?_
          refine lv_goto (tgt := 293) hx hb dL_tell_243 (by decide) ?_
          exact B_293  (σ10040) _ _ _  hP hD hS (lv_sub hl [] rfl) hp
      · have hp := hp.2.2.2.2.2.2.1 ej10006
        refine lv_tableIn (tgt := 234) (off := 152) hx hb dL_tell_82 (by rw [ej10006]; decide) (by rw [ej10006]; decide) (by rw [ej10006]; rfl) (by decide) ?_
        refine lv_aload_n hx hb dL_tell_234 rfl (lv_at hl 2 rfl) ?_
        refine lv_iload hx hb dL_tell_235 (lv_at hl 1 rfl) ?_
        refine lv_iload_n hx hb dL_tell_237 rfl (lv_at hl 4 rfl) ?_
        refine lv_iload_n hx hb dL_tell_238 rfl (lv_at hl 5 rfl) ?_
        have hFc := va_free0 hD hS hA
        refine vx_calli (vx_runV (g := F0 m 239 ls [.int x3, .int x2, .int s0, .ref (ad 0)]) (As := [.int s0, .int x2, .int x3]) (rest := []) hC.1 (c_X5_unlike l hflag D k ad hp) (cwV 3 hts (gB_V B_19 B_20 B_21 (iB_A _ A_25) (iB_A _ A_227)) rfl rfl rfl (by decide +kernel) ⟨Nat.le_of_ble_eq_true rfl, Nat.le_of_ble_eq_true rfl⟩) ⟨Pw_blind, va_recv hK hP (ci := 5) (q0 := 0) rfl rfl, fw_pre hC hP hD hS⟩ rfl rfl hl.1 rfl (lv_room (Nat.le_of_ble_eq_true rfl)) dL_tell_239 ⟨Nat.le_of_ble_eq_true rfl, Nat.le_of_ble_eq_true rfl⟩) hS (fun q _ h => hFc q h) hFc (fun q _ h => hFc q h) ?_ ?_
        · intro E ce q9 u t H1 locs1 ht hvm hpx hB hz hk hS1 hcell hcv hcl
          obtain ⟨E1, σ10044⟩ := u
          obtain ⟨hE, hP1, hD1⟩ := hB
          subst hE
          rw [ht] at hP1
          obtain ⟨hP, hD⟩ := (Jn.same : Jn D A (W5 k ad (σ)) H (fun u : Mem => W5 k ad u) (fun u : Mem => W5 k ad u)) σ10044 H1 hP1 hD1 hz hk hFc
          obtain ⟨rfl, hp⟩ := hpx
          have hS := hS1
          refine vx_catch (name := eIS) (E := eIS) hown [] (tbE (74, 294, 295, 54)) [] htb (fun z hz => by simp at hz) rfl (by decide) (hts _ (List.mem_cons_of_mem _ B_4)) (va_Nw.use rfl (GG.nc hG (q := ("java/lang/IllegalStateException", "java/lang/IllegalStateException")) 1 rfl)) hcell hcv hcl ?_
          refine lv_astore (lv' := [(6, .ref q9), (5, .int r10001), (4, .int s0), (0, .ref (ad 0)), (1, .int x1), (2, .int x2), (3, .int x3)]) hx hb dL_tell_295 hl (by decide) rfl (fun ls hl => ?_)
          exact B_297  (σ10044) _ _ _  hP hD hS (lv_sub hl [3] rfl) hp
        · intro r10042 σ10043 t H1 locs1 ht hvm hp hB hz hk hS1
          obtain ⟨hP1, hD1⟩ := hB
          rw [ht] at hP1
          obtain ⟨hP, hD⟩ := (Jn.same : Jn D A (W5 k ad (σ)) H (fun u : Mem => W5 k ad u) (fun u : Mem => W5 k ad u)) σ10043 H1 hP1 hD1 hz hk hFc
          have hS := hS1
          refine lv_pop hx hb dL_tell_242 rfl ?_
          refine lv_goto (tgt := 293) hx hb dL_tell_243 (by decide) ?_
          exact B_293  (σ10043) _ _ _  hP hD hS (lv_sub hl [] rfl) hp
      · have hp := hp.2.2.2.2.2.2.2 ej10006
        refine lv_tableIn (tgt := 246) (off := 164) hx hb dL_tell_82 (by rw [ej10006]; decide) (by rw [ej10006]; decide) (by rw [ej10006]; rfl) (by decide) ?_
        refine lv_aload_n hx hb dL_tell_246 rfl (lv_at hl 2 rfl) ?_
        refine lv_iload hx hb dL_tell_247 (lv_at hl 1 rfl) ?_
        refine lv_iload_n hx hb dL_tell_249 rfl (lv_at hl 4 rfl) ?_
        refine lv_iload hx hb dL_tell_250 (lv_at hl 0 rfl) ?_
        refine lv_iload_n hx hb dL_tell_252 rfl (lv_at hl 3 rfl) ?_
        refine lv_bipush (v := 8) hx hb dL_tell_253 (by decide) ?_
        refine lv_ishr hx hb dL_tell_255 ?_
        refine lv_iconst (v := 2) hx hb dL_tell_256 (by decide) ?_
        refine fw_ciS (As := [.int (x1 >>> (8 &&& 31)), .int 2]) (rest := [.int r10001, .int x2, .int s0, .ref (ad 0)]) hC (c_L_below l D k hp) (va_cwS 2 hts (gB_L B_6 B_7 B_8 B_0) rfl rfl rfl (by decide +kernel) ⟨Nat.le_of_ble_eq_true rfl, Nat.le_of_ble_eq_true rfl⟩) rfl hl.1 rfl (Nat.le_of_ble_eq_true rfl) dL_tell_257 ⟨Nat.le_of_ble_eq_true rfl, Nat.le_of_ble_eq_true rfl⟩ P_nil D_nil hS (Jn.pure (w0 := fun _ : Mem => []) hP hD) (fun r10045 σ10046 H locs hP hD hS hp => ?_)
        have hP : va_P D vwCl (W5 k ad (σ)) H := hP
        have hD : va_D A (W5 k ad (σ)) := hD
        refine lv_if_ne (tgt := 267) hx hb dL_tell_260 (by decide) (fun c10047 => ?_) (fun c10047 => ?_)
        · have hp := hp.1 c10047
          refine lv_iconst (v := 0) hx hb dL_tell_267 (by decide) ?_
          exact B_268 0 r10001 x2 s0 (σ) _ _ _  hP hD hS (lv_sub hl [2] rfl) hp
        · have hp := hp.2 c10047
          refine lv_iconst (v := 1) hx hb dL_tell_263 (by decide) ?_
          refine lv_goto (tgt := 268) hx hb dL_tell_264 (by decide) ?_
          exact B_268 1 r10001 x2 s0 (σ) _ _ _  hP hD hS (lv_sub hl [2] rfl) hp
  refine lv_iload_n hx hb dL_tell_0 rfl (lv_at hl 1 rfl) ?_
  refine lv_aload_n hx hb dL_tell_1 rfl (lv_at hl 0 rfl) ?_
  refine lv_iconst (v := 0) hx hb dL_tell_2 (by decide) ?_
  refine fw_ciV (As := [.int 0]) (rest := [.int p2]) hC (c0_X5_house l D k ad hp) (cwV 1 hts (gB_V B_5 (iB_A _ A_318) (iB_A _ A_319) (iB_A _ A_25) (iB_A _ A_298)) rfl rfl rfl (by decide +kernel) ⟨Nat.le_of_ble_eq_true rfl, Nat.le_of_ble_eq_true rfl⟩) (va_recv hK hP (ci := 5) (q0 := 0) rfl rfl) rfl hl.1 rfl (Nat.le_of_ble_eq_true rfl) dL_tell_3 ⟨Nat.le_of_ble_eq_true rfl, Nat.le_of_ble_eq_true rfl⟩ hP hD hS Jn.same (fun r1 σ2 H locs hP hD hS hp => ?_)
  have hP : va_P D vwCl (W5 k ad (σ2)) H := hP
  have hD : va_D A (W5 k ad (σ2)) := hD
  refine fw_ciS (As := [.int p2, .int r1]) (rest := []) hC (c_L_below l D k hp) (va_cwS 2 hts (gB_L B_6 B_7 B_8 B_0) rfl rfl rfl (by decide +kernel) ⟨Nat.le_of_ble_eq_true rfl, Nat.le_of_ble_eq_true rfl⟩) rfl hl.1 rfl (Nat.le_of_ble_eq_true rfl) dL_tell_6 ⟨Nat.le_of_ble_eq_true rfl, Nat.le_of_ble_eq_true rfl⟩ P_nil D_nil hS (Jn.pure (w0 := fun _ : Mem => []) hP hD) (fun r3 σ4 H locs hP hD hS hp => ?_)
  have hP : va_P D vwCl (W5 k ad (σ2)) H := hP
  have hD : va_D A (W5 k ad (σ2)) := hD
  refine lv_istore_n (lv' := [(2, .int r3), (0, .ref (ad 0)), (1, .int p2)]) hx hb dL_tell_9 rfl hl (by decide) rfl (fun ls hl => ?_)
  refine lv_iload_n hx hb dL_tell_10 rfl (lv_at hl 0 rfl) ?_
  refine lv_iconst (v := 1) hx hb dL_tell_11 (by decide) ?_
  refine lv_iadd hx hb dL_tell_12 ?_
  refine lv_iload_n hx hb dL_tell_13 rfl (lv_at hl 2 rfl) ?_
  refine lv_iconst (v := 3) hx hb dL_tell_14 (by decide) ?_
  refine lv_ishr hx hb dL_tell_15 ?_
  refine lv_aload_n hx hb dL_tell_16 rfl (lv_at hl 1 rfl) ?_
  refine lv_iconst (v := 0) hx hb dL_tell_17 (by decide) ?_
  refine fw_ciV (As := [.int 0]) (rest := [.int (p2 >>> (3 &&& 31)), .int (r3 + 1)]) hC (c0_X5_house l D k ad hp) (cwV 1 hts (gB_V B_5 (iB_A _ A_318) (iB_A _ A_319) (iB_A _ A_25) (iB_A _ A_298)) rfl rfl rfl (by decide +kernel) ⟨Nat.le_of_ble_eq_true rfl, Nat.le_of_ble_eq_true rfl⟩) (va_recv hK hP (ci := 5) (q0 := 0) rfl rfl) rfl hl.1 rfl (Nat.le_of_ble_eq_true rfl) dL_tell_18 ⟨Nat.le_of_ble_eq_true rfl, Nat.le_of_ble_eq_true rfl⟩ hP hD hS Jn.same (fun r5 σ6 H locs hP hD hS hp => ?_)
  have hP : va_P D vwCl (W5 k ad (σ6)) H := hP
  have hD : va_D A (W5 k ad (σ6)) := hD
  refine lv_iconst (v := 1) hx hb dL_tell_21 (by decide) ?_
  refine lv_isub hx hb dL_tell_22 ?_
  refine fw_ciS (As := [.int (p2 >>> (3 &&& 31)), .int (r5 - 1)]) (rest := [.int (r3 + 1)]) hC (c_L_below l D k hp) (va_cwS 2 hts (gB_L B_6 B_7 B_8 B_0) rfl rfl rfl (by decide +kernel) ⟨Nat.le_of_ble_eq_true rfl, Nat.le_of_ble_eq_true rfl⟩) rfl hl.1 rfl (Nat.le_of_ble_eq_true rfl) dL_tell_23 ⟨Nat.le_of_ble_eq_true rfl, Nat.le_of_ble_eq_true rfl⟩ P_nil D_nil hS (Jn.pure (w0 := fun _ : Mem => []) hP hD) (fun r7 σ8 H locs hP hD hS hp => ?_)
  have hP : va_P D vwCl (W5 k ad (σ6)) H := hP
  have hD : va_D A (W5 k ad (σ6)) := hD
  refine lv_iadd hx hb dL_tell_26 ?_
  refine lv_aload_n hx hb dL_tell_27 rfl (lv_at hl 1 rfl) ?_
  refine lv_iconst (v := 0) hx hb dL_tell_28 (by decide) ?_
  refine fw_ciV (As := [.int 0]) (rest := [.int ((r3 + 1) + r7)]) hC (c0_X5_house l D k ad hp) (cwV 1 hts (gB_V B_5 (iB_A _ A_318) (iB_A _ A_319) (iB_A _ A_25) (iB_A _ A_298)) rfl rfl rfl (by decide +kernel) ⟨Nat.le_of_ble_eq_true rfl, Nat.le_of_ble_eq_true rfl⟩) (va_recv hK hP (ci := 5) (q0 := 0) rfl rfl) rfl hl.1 rfl (Nat.le_of_ble_eq_true rfl) dL_tell_29 ⟨Nat.le_of_ble_eq_true rfl, Nat.le_of_ble_eq_true rfl⟩ hP hD hS Jn.same (fun r9 σ10 H locs hP hD hS hp => ?_)
  have hP : va_P D vwCl (W5 k ad (σ10)) H := hP
  have hD : va_D A (W5 k ad (σ10)) := hD
  obtain ⟨h11, hp⟩ := hp
  refine lv_irem hx hb dL_tell_32 h11 ?_
  refine lv_topi (fun v12 ev12 => ?_)
  have hp := hp v12 ev12
  refine lv_istore_n (lv' := [(3, .int v12), (2, .int r3), (0, .ref (ad 0)), (1, .int p2)]) hx hb dL_tell_33 rfl hl (by decide) rfl (fun ls hl => ?_)
  refine lv_iload_n hx hb dL_tell_34 rfl (lv_at hl 3 rfl) ?_
  refine lv_iconst (v := 5) hx hb dL_tell_35 (by decide) ?_
  refine lv_ishr hx hb dL_tell_36 ?_
  refine lv_iconst (v := 5) hx hb dL_tell_37 (by decide) ?_
  refine fw_ciS (As := [.int (p2 >>> (5 &&& 31)), .int 5]) (rest := []) hC (c_L_below l D k hp) (va_cwS 2 hts (gB_L B_6 B_7 B_8 B_0) rfl rfl rfl (by decide +kernel) ⟨Nat.le_of_ble_eq_true rfl, Nat.le_of_ble_eq_true rfl⟩) rfl hl.1 rfl (Nat.le_of_ble_eq_true rfl) dL_tell_38 ⟨Nat.le_of_ble_eq_true rfl, Nat.le_of_ble_eq_true rfl⟩ P_nil D_nil hS (Jn.pure (w0 := fun _ : Mem => []) hP hD) (fun r13 σ14 H locs hP hD hS hp => ?_)
  have hP : va_P D vwCl (W5 k ad (σ10)) H := hP
  have hD : va_D A (W5 k ad (σ10)) := hD
  refine lv_if_ne (tgt := 55) hx hb dL_tell_41 (by decide) (fun c15 => ?_) (fun c15 => ?_)
  · have hp := hp.1 c15
    refine lv_aload_n hx hb dL_tell_55 rfl (lv_at hl 2 rfl) ?_
    refine lv_iload_n hx hb dL_tell_56 rfl (lv_at hl 1 rfl) ?_
    refine lv_iconst (v := 0) hx hb dL_tell_57 (by decide) ?_
    refine fw_ciV (As := [.int r3, .int 0]) (rest := []) hC (c0_X5_ofField l D k ad hp) (cwV 2 hts (gB_V B_9 (iB_A _ A_321) (iB_A _ A_322) (iB_A _ A_25) (iB_A _ A_272)) rfl rfl rfl (by decide +kernel) ⟨Nat.le_of_ble_eq_true rfl, Nat.le_of_ble_eq_true rfl⟩) (va_recv hK hP (ci := 5) (q0 := 0) rfl rfl) rfl hl.1 rfl (Nat.le_of_ble_eq_true rfl) dL_tell_58 ⟨Nat.le_of_ble_eq_true rfl, Nat.le_of_ble_eq_true rfl⟩ hP hD hS Jn.same (fun r16 σ17 H locs hP hD hS hp => ?_)
    have hP : va_P D vwCl (W5 k ad (σ17)) H := hP
    have hD : va_D A (W5 k ad (σ17)) := hD
    exact B_61 r16 p2 r3 v12 (σ17) _ _ _  hP hD hS (lv_sub hl [2, 3, 1, 0] rfl) hp
  · have hp := hp.2 c15
    refine lv_iload_n hx hb dL_tell_44 rfl (lv_at hl 3 rfl) ?_
    refine lv_bipush (v := 7) hx hb dL_tell_45 (by decide) ?_
    refine lv_ishr hx hb dL_tell_47 ?_
    refine lv_iconst (v := 4) hx hb dL_tell_48 (by decide) ?_
    refine fw_ciS (As := [.int (p2 >>> (7 &&& 31)), .int 4]) (rest := []) hC (c_L_below l D k hp) (va_cwS 2 hts (gB_L B_6 B_7 B_8 B_0) rfl rfl rfl (by decide +kernel) ⟨Nat.le_of_ble_eq_true rfl, Nat.le_of_ble_eq_true rfl⟩) rfl hl.1 rfl (Nat.le_of_ble_eq_true rfl) dL_tell_49 ⟨Nat.le_of_ble_eq_true rfl, Nat.le_of_ble_eq_true rfl⟩ P_nil D_nil hS (Jn.pure (w0 := fun _ : Mem => []) hP hD) (fun r18 σ19 H locs hP hD hS hp => ?_)
    have hP : va_P D vwCl (W5 k ad (σ10)) H := hP
    have hD : va_D A (W5 k ad (σ10)) := hD
    refine lv_goto (tgt := 61) hx hb dL_tell_52 (by decide) ?_
    exact B_61 r18 p2 r3 v12 (σ10) _ _ _  hP hD hS (lv_sub hl [2, 3, 1, 0] rfl) hp
def q_L_isDone_262  (post : Int32 → Mem → Prop)  (σ : Mem) : Prop := post 0 (σ)
def q_L_isDone_258  (post : Int32 → Mem → Prop)  (σ : Mem) : Prop := post 1 (σ)
def q_L_isDone_143  (post : Int32 → Mem → Prop)  (s0 : Int32) (s1 : Int32) (σ : Mem) : Prop := (q_X5_withdraw (fun (r2001 : Int32) (σ2002 : Mem) => (q_L_isDone_258 post) (σ2002)) (fun (E : String) (σ2003 : Mem) => (E = eIS ∧ (q_L_isDone_262 post) (σ2003))) s1 s0 (σ))
def q_L_isDone_118  (post : Int32 → Mem → Prop)  (s0 : Int32) (s1 : Int32) (σ : Mem) : Prop := (q_X5_approve (fun (r1001 : Int32) (σ1002 : Mem) => (q_L_isDone_258 post) (σ1002)) (fun (E : String) (σ1003 : Mem) => (E = eIS ∧ (q_L_isDone_262 post) (σ1003))) s1 s0 (σ))
def q_L_isDone  (post : Int32 → Mem → Prop) (p2 : Int32) (σ : Mem) : Prop := (q_X5_house (fun (r1 : Int32) (σ2 : Mem) => (q_L_below (fun (r3 : Int32) (σ4 : Mem) => (q_X5_house (fun (r5 : Int32) (σ6 : Mem) => (q_L_below (fun (r7 : Int32) (σ8 : Mem) => (q_L_below (fun (r9 : Int32) (σ10 : Mem) => (q_L_below (fun (r11 : Int32) (σ12 : Mem) => ((sw_out r11 10 → (q_X5_withdraw (fun (r15 : Int32) (σ16 : Mem) => (q_L_isDone_258 post) (σ16)) (fun (E : String) (σ17 : Mem) => (E = eIS ∧ (q_L_isDone_262 post) (σ17))) r3 0 (σ6))) ∧ (r11 = nI 0 → (q_L_below (fun (r18 : Int32) (σ19 : Mem) => ((r18 ≠ 0 → (q_L_isDone_118 post) 0 r3 (σ6)) ∧ (r18 = 0 → (q_L_isDone_118 post) 1 r3 (σ6)))) (p2 >>> (9 &&& 31)) 2 (σ6))) ∧ (r11 = nI 1 → (q_L_below (fun (r21 : Int32) (σ22 : Mem) => ((r21 ≤ 0 → (q_L_isDone_143 post) 0 r3 (σ6)) ∧ (¬ (r21 ≤ 0) → (q_L_isDone_143 post) 1 r3 (σ6)))) (p2 >>> (9 &&& 31)) 3 (σ6))) ∧ (r11 = nI 2 → (q_L_below (fun (r24 : Int32) (σ25 : Mem) => ((r24 ≤ 0 → (q_L_isDone_143 post) 0 r3 (σ6)) ∧ (¬ (r24 ≤ 0) → (q_L_isDone_143 post) 1 r3 (σ6)))) (p2 >>> (9 &&& 31)) 3 (σ6))) ∧ (r11 = nI 3 → (q_L_below (fun (r27 : Int32) (σ28 : Mem) => (q_X5_weight (fun (r29 : Int32) (σ30 : Mem) => (q_L_isDone_258 post) (σ30)) (fun (E : String) (σ31 : Mem) => (E = eIS ∧ (q_L_isDone_262 post) (σ31))) r7 r27 (σ6))) (p2 >>> (8 &&& 31)) 10 (σ6))) ∧ (r11 = nI 4 → (q_X5_commit (fun (r32 : Int32) (σ33 : Mem) => (q_L_isDone_258 post) (σ33)) (fun (E : String) (σ34 : Mem) => (E = eIS ∧ (q_L_isDone_262 post) (σ34))) (σ6))) ∧ (r11 = nI 5 → (q_X5_commit (fun (r35 : Int32) (σ36 : Mem) => (q_L_isDone_258 post) (σ36)) (fun (E : String) (σ37 : Mem) => (E = eIS ∧ (q_L_isDone_262 post) (σ37))) (σ6))) ∧ (r11 = nI 6 → (q_X5_house (fun (r38 : Int32) (σ39 : Mem) => ((r38 ≤ 0 → (q_L_isDone_258 post) (σ39)) ∧ (¬ (r38 ≤ 0) → (q_X5_house (fun (r41 : Int32) (σ42 : Mem) => (q_L_below (fun (r43 : Int32) (σ44 : Mem) => (q_L_below (fun (r45 : Int32) (σ46 : Mem) => (q_X5_wave (fun (r47 : Int32) (σ48 : Mem) => (q_L_isDone_258 post) (σ48)) (fun (E : String) (σ49 : Mem) => (E = eIS ∧ (q_L_isDone_262 post) (σ49))) r43 r45 (σ42))) (p2 >>> (3 &&& 31)) 64 (σ42))) (p2 >>> (9 &&& 31)) r41 (σ42))) (fun _ _ => False) 5 (σ39))))) (fun _ _ => False) 5 (σ6))) ∧ (r11 = nI 7 → (q_L_below (fun (r50 : Int32) (σ51 : Mem) => (q_X5_patch (fun (r52 : Int32) (σ53 : Mem) => (q_L_isDone_258 post) (σ53)) (fun (E : String) (σ54 : Mem) => (E = eIS ∧ (q_L_isDone_262 post) (σ54))) r9 r7 r50 (σ6))) (p2 >>> (9 &&& 31)) 8 (σ6))) ∧ (r11 = nI 8 → (q_X5_absorb (fun (r55 : Int32) (σ56 : Mem) => (q_L_isDone_258 post) (σ56)) (fun (E : String) (σ57 : Mem) => (E = eIS ∧ (q_L_isDone_262 post) (σ57))) r9 r7 (σ6))) ∧ (r11 = nI 9 → (q_L_tell (fun (r58 : Int32) (σ59 : Mem) => (bz r58 ∧ post r58 (σ59))) (p2 >>> (3 &&& 31)) (σ6))))) p2 11 (σ6))) (p2 >>> (7 &&& 31)) 6 (σ6))) (p2 >>> (5 &&& 31)) r5 (σ6))) (fun _ _ => False) 0 (σ2))) (p2 >>> (4 &&& 31)) (if (1 : Int32) < r1 then r1 else 1) (σ2))) (fun _ _ => False) 1 (σ))
abbrev rm_L_isDone : Room := { frames := 22, cells := 1, slots := 6, locals := 983 }
abbrev wq_L_isDone : List Cond := Cond.codeWith yL_isDone cL_isDone 6 (some .boolean) [(39, 250, 260, 54), (251, 259, 260, 54)] :: wLAW
set_option maxHeartbeats 4000000 in
set_option maxRecDepth 100000 in
theorem c_L_isDone (l : Launch) (hflag : l.stackTraces = false) (D : va_G) (k ad : Nat → Nat) {sz : Nat} {σ : Mem} {p2 : Int32} {post : Int32 → Mem → Prop} (hp : q_L_isDone post p2 σ) : Met l yL_isDone wq_L_isDone rm_L_isDone (va_Pc [.ref (ad 0), .int p2] (Pw D k (W5 k ad (σ)) sz)) (va_Qi post (fun u => Bw D (W5 k ad (σ)) sz (W5 k ad u)) (va_A (W5 k ad (σ)) sz)) 1 6 (va_A (W5 k ad (σ)) sz) := by
  refine fw_X (wf := fun u : Mem => W5 k ad u) (by decide) rfl (Nat.le_of_ble_eq_true rfl) ?_
  intro p e s m args below meth c A Q ls hC htb hP hD hl hret
  obtain ⟨⟨hx, hb, hml, hown, hts⟩, hG, hA⟩ := id hC
  have hK := hG.1
  have hS : va_S A s.heap s.heap [] := va_S.rf
  have hl : lv_has ls 6 [(0, .ref (ad 0)), (1, .int p2)] := hl
  have hown : s.vm.findClass RL = some m.cls := hown
  unfold q_L_isDone at hp
  have B_262 : ∀  (σ : Mem) (H : Heap) (locs : List Loc) (ls : Array Slot), va_P D vwCl (W5 k ad (σ)) H → va_D A (W5 k ad (σ)) → va_S A s.heap H locs → lv_has ls 6 [] → (q_L_isDone_262 post)  σ → W p l e rm_L_isDone s m args below meth c H locs 1 6 Q (F0 m 262 ls []) := by
    intro  σ H locs ls hP hD hS hl hp
    unfold q_L_isDone_262 at hp
    refine lv_iconst (v := 0) hx hb dL_isDone_262 (by decide) ?_
    exact hret 0 (σ) _ _ _ _ _ _ dL_isDone_263 (by decide) hP hD hS (Nat.le_of_ble_eq_true rfl) (Nat.le_of_ble_eq_true rfl) hp
  have B_258 : ∀  (σ : Mem) (H : Heap) (locs : List Loc) (ls : Array Slot), va_P D vwCl (W5 k ad (σ)) H → va_D A (W5 k ad (σ)) → va_S A s.heap H locs → lv_has ls 6 [] → (q_L_isDone_258 post)  σ → W p l e rm_L_isDone s m args below meth c H locs 1 6 Q (F0 m 258 ls []) := by
    intro  σ H locs ls hP hD hS hl hp
    unfold q_L_isDone_258 at hp
    refine lv_iconst (v := 1) hx hb dL_isDone_258 (by decide) ?_
    exact hret 1 (σ) _ _ _ _ _ _ dL_isDone_259 (by decide) hP hD hS (Nat.le_of_ble_eq_true rfl) (Nat.le_of_ble_eq_true rfl) hp
  have B_143 : ∀ (s0 : Int32) (s1 : Int32) (σ : Mem) (H : Heap) (locs : List Loc) (ls : Array Slot), va_P D vwCl (W5 k ad (σ)) H → va_D A (W5 k ad (σ)) → va_S A s.heap H locs → lv_has ls 6 [] → (q_L_isDone_143 post) s0 s1 σ → W p l e rm_L_isDone s m args below meth c H locs 0 0 Q (F0 m 143 ls [.int s0, .int s1, .ref (ad 0)]) := by
    intro s0 s1 σ H locs ls hP hD hS hl hp
    unfold q_L_isDone_143 at hp
    have hFc := va_free0 hD hS hA
    refine vx_calli (vx_runV (g := F0 m 143 ls [.int s0, .int s1, .ref (ad 0)]) (As := [.int s1, .int s0]) (rest := []) hC.1 (c_X5_withdraw l hflag D k ad hp) (cwV 2 hts (gB_V B_45 B_46 B_47 (iB_A _ A_25) (iB_A _ A_237)) rfl rfl rfl (by decide +kernel) ⟨Nat.le_of_ble_eq_true rfl, Nat.le_of_ble_eq_true rfl⟩) ⟨Pw_blind, va_recv hK hP (ci := 5) (q0 := 0) rfl rfl, fw_pre hC hP hD hS⟩ rfl rfl hl.1 rfl (lv_room (Nat.le_of_ble_eq_true rfl)) dL_isDone_143 ⟨Nat.le_of_ble_eq_true rfl, Nat.le_of_ble_eq_true rfl⟩) hS (fun q _ h => hFc q h) hFc (fun q _ h => hFc q h) ?_ ?_
    · intro E ce q9 u t H1 locs1 ht hvm hpx hB hz hk hS1 hcell hcv hcl
      obtain ⟨E1, σ20003⟩ := u
      obtain ⟨hE, hP1, hD1⟩ := hB
      subst hE
      rw [ht] at hP1
      obtain ⟨hP, hD⟩ := (Jn.same : Jn D A (W5 k ad (σ)) H (fun u : Mem => W5 k ad u) (fun u : Mem => W5 k ad u)) σ20003 H1 hP1 hD1 hz hk hFc
      obtain ⟨rfl, hp⟩ := hpx
      have hS := hS1
      refine vx_catch (name := eIS) (E := eIS) hown [] (tbE (39, 250, 260, 54)) [tbE (251, 259, 260, 54)] htb (fun z hz => by simp at hz) rfl (by decide) (hts _ (List.mem_cons_of_mem _ B_4)) (va_Nw.use rfl (GG.nc hG (q := ("java/lang/IllegalStateException", "java/lang/IllegalStateException")) 1 rfl)) hcell hcv hcl ?_
      refine lv_astore (lv' := [(5, .ref q9)]) hx hb dL_isDone_260 hl (by decide) rfl (fun ls hl => ?_)
      exact B_262  (σ20003) _ _ _  hP hD hS (lv_sub hl [] rfl) hp
    · intro r20001 σ20002 t H1 locs1 ht hvm hp hB hz hk hS1
      obtain ⟨hP1, hD1⟩ := hB
      rw [ht] at hP1
      obtain ⟨hP, hD⟩ := (Jn.same : Jn D A (W5 k ad (σ)) H (fun u : Mem => W5 k ad u) (fun u : Mem => W5 k ad u)) σ20002 H1 hP1 hD1 hz hk hFc
      have hS := hS1
      refine lv_pop hx hb dL_isDone_146 rfl ?_
      refine lv_goto (tgt := 258) hx hb dL_isDone_147 (by decide) ?_
      exact B_258  (σ20002) _ _ _  hP hD hS (lv_sub hl [] rfl) hp
  have B_118 : ∀ (s0 : Int32) (s1 : Int32) (σ : Mem) (H : Heap) (locs : List Loc) (ls : Array Slot), va_P D vwCl (W5 k ad (σ)) H → va_D A (W5 k ad (σ)) → va_S A s.heap H locs → lv_has ls 6 [] → (q_L_isDone_118 post) s0 s1 σ → W p l e rm_L_isDone s m args below meth c H locs 0 0 Q (F0 m 118 ls [.int s0, .int s1, .ref (ad 0)]) := by
    intro s0 s1 σ H locs ls hP hD hS hl hp
    unfold q_L_isDone_118 at hp
    have hFc := va_free0 hD hS hA
    refine vx_calli (vx_runV (g := F0 m 118 ls [.int s0, .int s1, .ref (ad 0)]) (As := [.int s1, .int s0]) (rest := []) hC.1 (c_X5_approve l hflag D k ad hp) (cwV 2 hts (gB_V B_42 B_43 B_44 (iB_A _ A_25) (iB_A _ A_235)) rfl rfl rfl (by decide +kernel) ⟨Nat.le_of_ble_eq_true rfl, Nat.le_of_ble_eq_true rfl⟩) ⟨Pw_blind, va_recv hK hP (ci := 5) (q0 := 0) rfl rfl, fw_pre hC hP hD hS⟩ rfl rfl hl.1 rfl (lv_room (Nat.le_of_ble_eq_true rfl)) dL_isDone_118 ⟨Nat.le_of_ble_eq_true rfl, Nat.le_of_ble_eq_true rfl⟩) hS (fun q _ h => hFc q h) hFc (fun q _ h => hFc q h) ?_ ?_
    · intro E ce q9 u t H1 locs1 ht hvm hpx hB hz hk hS1 hcell hcv hcl
      obtain ⟨E1, σ10003⟩ := u
      obtain ⟨hE, hP1, hD1⟩ := hB
      subst hE
      rw [ht] at hP1
      obtain ⟨hP, hD⟩ := (Jn.same : Jn D A (W5 k ad (σ)) H (fun u : Mem => W5 k ad u) (fun u : Mem => W5 k ad u)) σ10003 H1 hP1 hD1 hz hk hFc
      obtain ⟨rfl, hp⟩ := hpx
      have hS := hS1
      refine vx_catch (name := eIS) (E := eIS) hown [] (tbE (39, 250, 260, 54)) [tbE (251, 259, 260, 54)] htb (fun z hz => by simp at hz) rfl (by decide) (hts _ (List.mem_cons_of_mem _ B_4)) (va_Nw.use rfl (GG.nc hG (q := ("java/lang/IllegalStateException", "java/lang/IllegalStateException")) 1 rfl)) hcell hcv hcl ?_
      refine lv_astore (lv' := [(5, .ref q9)]) hx hb dL_isDone_260 hl (by decide) rfl (fun ls hl => ?_)
      exact B_262  (σ10003) _ _ _  hP hD hS (lv_sub hl [] rfl) hp
    · intro r10001 σ10002 t H1 locs1 ht hvm hp hB hz hk hS1
      obtain ⟨hP1, hD1⟩ := hB
      rw [ht] at hP1
      obtain ⟨hP, hD⟩ := (Jn.same : Jn D A (W5 k ad (σ)) H (fun u : Mem => W5 k ad u) (fun u : Mem => W5 k ad u)) σ10002 H1 hP1 hD1 hz hk hFc
      have hS := hS1
      refine lv_pop hx hb dL_isDone_121 rfl ?_
      refine lv_goto (tgt := 258) hx hb dL_isDone_122 (by decide) ?_
      exact B_258  (σ10002) _ _ _  hP hD hS (lv_sub hl [] rfl) hp
  refine lv_iload_n hx hb dL_isDone_0 rfl (lv_at hl 1 rfl) ?_
  refine lv_iconst (v := 4) hx hb dL_isDone_1 (by decide) ?_
  refine lv_ishr hx hb dL_isDone_2 ?_
  refine lv_iconst (v := 1) hx hb dL_isDone_3 (by decide) ?_
  refine lv_aload_n hx hb dL_isDone_4 rfl (lv_at hl 0 rfl) ?_
  refine lv_iconst (v := 1) hx hb dL_isDone_5 (by decide) ?_
  refine fw_ciV (As := [.int 1]) (rest := [.int 1, .int (p2 >>> (4 &&& 31))]) hC (c0_X5_house l D k ad hp) (cwV 1 hts (gB_V B_5 (iB_A _ A_318) (iB_A _ A_319) (iB_A _ A_25) (iB_A _ A_298)) rfl rfl rfl (by decide +kernel) ⟨Nat.le_of_ble_eq_true rfl, Nat.le_of_ble_eq_true rfl⟩) (va_recv hK hP (ci := 5) (q0 := 0) rfl rfl) rfl hl.1 rfl (Nat.le_of_ble_eq_true rfl) dL_isDone_6 ⟨Nat.le_of_ble_eq_true rfl, Nat.le_of_ble_eq_true rfl⟩ hP hD hS Jn.same (fun r1 σ2 H locs hP hD hS hp => ?_)
  have hP : va_P D vwCl (W5 k ad (σ2)) H := hP
  have hD : va_D A (W5 k ad (σ2)) := hD
  refine va_mmax (x := 1) (y := r1) hx hb (by rw [hml]; exact hl.1.symm) hown (hts _ (List.mem_cons_of_mem _ B_38)) (hts _ (List.mem_cons_of_mem _ B_39)) (hts _ (List.mem_cons_of_mem _ B_40)) (hts _ (List.mem_cons_of_mem _ B_41)) (Nat.le_of_ble_eq_true rfl) (Nat.le_of_ble_eq_true rfl) (Nat.zero_le _) (Nat.zero_le _) dL_isDone_9 ?_
  refine fw_ciS (As := [.int (p2 >>> (4 &&& 31)), .int (if (1 : Int32) < r1 then r1 else 1)]) (rest := []) hC (c_L_below l D k hp) (va_cwS 2 hts (gB_L B_6 B_7 B_8 B_0) rfl rfl rfl (by decide +kernel) ⟨Nat.le_of_ble_eq_true rfl, Nat.le_of_ble_eq_true rfl⟩) rfl hl.1 rfl (Nat.le_of_ble_eq_true rfl) dL_isDone_12 ⟨Nat.le_of_ble_eq_true rfl, Nat.le_of_ble_eq_true rfl⟩ P_nil D_nil hS (Jn.pure (w0 := fun _ : Mem => []) hP hD) (fun r3 σ4 H locs hP hD hS hp => ?_)
  have hP : va_P D vwCl (W5 k ad (σ2)) H := hP
  have hD : va_D A (W5 k ad (σ2)) := hD
  refine lv_istore_n (lv' := [(2, .int r3), (0, .ref (ad 0)), (1, .int p2)]) hx hb dL_isDone_15 rfl hl (by decide) rfl (fun ls hl => ?_)
  refine lv_iload_n hx hb dL_isDone_16 rfl (lv_at hl 2 rfl) ?_
  refine lv_iconst (v := 5) hx hb dL_isDone_17 (by decide) ?_
  refine lv_ishr hx hb dL_isDone_18 ?_
  refine lv_aload_n hx hb dL_isDone_19 rfl (lv_at hl 1 rfl) ?_
  refine lv_iconst (v := 0) hx hb dL_isDone_20 (by decide) ?_
  refine fw_ciV (As := [.int 0]) (rest := [.int (p2 >>> (5 &&& 31))]) hC (c0_X5_house l D k ad hp) (cwV 1 hts (gB_V B_5 (iB_A _ A_318) (iB_A _ A_319) (iB_A _ A_25) (iB_A _ A_298)) rfl rfl rfl (by decide +kernel) ⟨Nat.le_of_ble_eq_true rfl, Nat.le_of_ble_eq_true rfl⟩) (va_recv hK hP (ci := 5) (q0 := 0) rfl rfl) rfl hl.1 rfl (Nat.le_of_ble_eq_true rfl) dL_isDone_21 ⟨Nat.le_of_ble_eq_true rfl, Nat.le_of_ble_eq_true rfl⟩ hP hD hS Jn.same (fun r5 σ6 H locs hP hD hS hp => ?_)
  have hP : va_P D vwCl (W5 k ad (σ6)) H := hP
  have hD : va_D A (W5 k ad (σ6)) := hD
  refine fw_ciS (As := [.int (p2 >>> (5 &&& 31)), .int r5]) (rest := []) hC (c_L_below l D k hp) (va_cwS 2 hts (gB_L B_6 B_7 B_8 B_0) rfl rfl rfl (by decide +kernel) ⟨Nat.le_of_ble_eq_true rfl, Nat.le_of_ble_eq_true rfl⟩) rfl hl.1 rfl (Nat.le_of_ble_eq_true rfl) dL_isDone_24 ⟨Nat.le_of_ble_eq_true rfl, Nat.le_of_ble_eq_true rfl⟩ P_nil D_nil hS (Jn.pure (w0 := fun _ : Mem => []) hP hD) (fun r7 σ8 H locs hP hD hS hp => ?_)
  have hP : va_P D vwCl (W5 k ad (σ6)) H := hP
  have hD : va_D A (W5 k ad (σ6)) := hD
  refine lv_istore_n (lv' := [(3, .int r7), (2, .int r3), (0, .ref (ad 0)), (1, .int p2)]) hx hb dL_isDone_27 rfl hl (by decide) rfl (fun ls hl => ?_)
  refine lv_iload_n hx hb dL_isDone_28 rfl (lv_at hl 3 rfl) ?_
  refine lv_bipush (v := 7) hx hb dL_isDone_29 (by decide) ?_
  refine lv_ishr hx hb dL_isDone_31 ?_
  refine lv_bipush (v := 6) hx hb dL_isDone_32 (by decide) ?_
  refine fw_ciS (As := [.int (p2 >>> (7 &&& 31)), .int 6]) (rest := []) hC (c_L_below l D k hp) (va_cwS 2 hts (gB_L B_6 B_7 B_8 B_0) rfl rfl rfl (by decide +kernel) ⟨Nat.le_of_ble_eq_true rfl, Nat.le_of_ble_eq_true rfl⟩) rfl hl.1 rfl (Nat.le_of_ble_eq_true rfl) dL_isDone_34 ⟨Nat.le_of_ble_eq_true rfl, Nat.le_of_ble_eq_true rfl⟩ P_nil D_nil hS (Jn.pure (w0 := fun _ : Mem => []) hP hD) (fun r9 σ10 H locs hP hD hS hp => ?_)
  have hP : va_P D vwCl (W5 k ad (σ6)) H := hP
  have hD : va_D A (W5 k ad (σ6)) := hD
  refine lv_istore (lv' := [(4, .int r9), (3, .int r7), (2, .int r3), (0, .ref (ad 0)), (1, .int p2)]) hx hb dL_isDone_37 hl (by decide) rfl (fun ls hl => ?_)
  refine lv_iload_n hx hb dL_isDone_39 rfl (lv_at hl 4 rfl) ?_
  refine lv_bipush (v := 11) hx hb dL_isDone_40 (by decide) ?_
  refine fw_ciS (As := [.int p2, .int 11]) (rest := []) hC (c_L_below l D k hp) (va_cwS 2 hts (gB_L B_6 B_7 B_8 B_0) rfl rfl rfl (by decide +kernel) ⟨Nat.le_of_ble_eq_true rfl, Nat.le_of_ble_eq_true rfl⟩) rfl hl.1 rfl (Nat.le_of_ble_eq_true rfl) dL_isDone_42 ⟨Nat.le_of_ble_eq_true rfl, Nat.le_of_ble_eq_true rfl⟩ P_nil D_nil hS (Jn.pure (w0 := fun _ : Mem => []) hP hD) (fun r11 σ12 H locs hP hD hS hp => ?_)
  have hP : va_P D vwCl (W5 k ad (σ6)) H := hP
  have hD : va_D A (W5 k ad (σ6)) := hD
  rcases sw_in r11 10 (by decide) with c13 | ⟨j14, hj14, ej14⟩
  · have hp := hp.1 c13
    refine lv_tableOut (tgt := 251) hx hb dL_isDone_45 (sw_of c13) (by decide) ?_
    refine lv_aload_n hx hb dL_isDone_251 rfl (lv_at hl 3 rfl) ?_
    refine lv_iload_n hx hb dL_isDone_252 rfl (lv_at hl 2 rfl) ?_
    refine lv_iconst (v := 0) hx hb dL_isDone_253 (by decide) ?_
    have hFc := va_free0 hD hS hA
    refine vx_calli (vx_runV (g := F0 m 254 ls [.int 0, .int r3, .ref (ad 0)]) (As := [.int r3, .int 0]) (rest := []) hC.1 (c_X5_withdraw l hflag D k ad hp) (cwV 2 hts (gB_V B_45 B_46 B_47 (iB_A _ A_25) (iB_A _ A_237)) rfl rfl rfl (by decide +kernel) ⟨Nat.le_of_ble_eq_true rfl, Nat.le_of_ble_eq_true rfl⟩) ⟨Pw_blind, va_recv hK hP (ci := 5) (q0 := 0) rfl rfl, fw_pre hC hP hD hS⟩ rfl rfl hl.1 rfl (lv_room (Nat.le_of_ble_eq_true rfl)) dL_isDone_254 ⟨Nat.le_of_ble_eq_true rfl, Nat.le_of_ble_eq_true rfl⟩) hS (fun q _ h => hFc q h) hFc (fun q _ h => hFc q h) ?_ ?_
    · intro E ce q9 u t H1 locs1 ht hvm hpx hB hz hk hS1 hcell hcv hcl
      obtain ⟨E1, σ17⟩ := u
      obtain ⟨hE, hP1, hD1⟩ := hB
      subst hE
      rw [ht] at hP1
      obtain ⟨hP, hD⟩ := (Jn.same : Jn D A (W5 k ad (σ6)) H (fun u : Mem => W5 k ad u) (fun u : Mem => W5 k ad u)) σ17 H1 hP1 hD1 hz hk hFc
      obtain ⟨rfl, hp⟩ := hpx
      have hS := hS1
      refine vx_catch (name := eIS) (E := eIS) hown [tbE (39, 250, 260, 54)] (tbE (251, 259, 260, 54)) [] htb (fun z hz => by obtain rfl := List.mem_singleton.mp hz; exact Or.inl rfl) rfl (by decide) (hts _ (List.mem_cons_of_mem _ B_4)) (va_Nw.use rfl (GG.nc hG (q := ("java/lang/IllegalStateException", "java/lang/IllegalStateException")) 1 rfl)) hcell hcv hcl ?_
      refine lv_astore (lv' := [(5, .ref q9), (4, .int r9), (3, .int r7), (2, .int r3), (0, .ref (ad 0)), (1, .int p2)]) hx hb dL_isDone_260 hl (by decide) rfl (fun ls hl => ?_)
      exact B_262  (σ17) _ _ _  hP hD hS (lv_sub hl [] rfl) hp
    · intro r15 σ16 t H1 locs1 ht hvm hp hB hz hk hS1
      obtain ⟨hP1, hD1⟩ := hB
      rw [ht] at hP1
      obtain ⟨hP, hD⟩ := (Jn.same : Jn D A (W5 k ad (σ6)) H (fun u : Mem => W5 k ad u) (fun u : Mem => W5 k ad u)) σ16 H1 hP1 hD1 hz hk hFc
      have hS := hS1
      refine lv_pop hx hb dL_isDone_257 rfl ?_
      exact B_258  (σ16) _ _ _  hP hD hS (lv_sub hl [] rfl) hp
  · have hp := hp.2
    rcases (show j14 = 0 ∨ j14 = 1 ∨ j14 = 2 ∨ j14 = 3 ∨ j14 = 4 ∨ j14 = 5 ∨ j14 = 6 ∨ j14 = 7 ∨ j14 = 8 ∨ j14 = 9 by omega) with rfl | rfl | rfl | rfl | rfl | rfl | rfl | rfl | rfl | rfl
    · have hp := hp.1 ej14
      refine lv_tableIn (tgt := 100) (off := 55) hx hb dL_isDone_45 (by rw [ej14]; decide) (by rw [ej14]; decide) (by rw [ej14]; rfl) (by decide) ?_
      refine lv_aload_n hx hb dL_isDone_100 rfl (lv_at hl 3 rfl) ?_
      refine lv_iload_n hx hb dL_isDone_101 rfl (lv_at hl 2 rfl) ?_
      refine lv_iload_n hx hb dL_isDone_102 rfl (lv_at hl 4 rfl) ?_
      refine lv_bipush (v := 9) hx hb dL_isDone_103 (by decide) ?_
      refine lv_ishr hx hb dL_isDone_105 ?_
      refine lv_iconst (v := 2) hx hb dL_isDone_106 (by decide) ?_
      refine fw_ciS (As := [.int (p2 >>> (9 &&& 31)), .int 2]) (rest := [.int r3, .ref (ad 0)]) hC (c_L_below l D k hp) (va_cwS 2 hts (gB_L B_6 B_7 B_8 B_0) rfl rfl rfl (by decide +kernel) ⟨Nat.le_of_ble_eq_true rfl, Nat.le_of_ble_eq_true rfl⟩) rfl hl.1 rfl (Nat.le_of_ble_eq_true rfl) dL_isDone_107 ⟨Nat.le_of_ble_eq_true rfl, Nat.le_of_ble_eq_true rfl⟩ P_nil D_nil hS (Jn.pure (w0 := fun _ : Mem => []) hP hD) (fun r18 σ19 H locs hP hD hS hp => ?_)
      have hP : va_P D vwCl (W5 k ad (σ6)) H := hP
      have hD : va_D A (W5 k ad (σ6)) := hD
      refine lv_if_ne (tgt := 117) hx hb dL_isDone_110 (by decide) (fun c20 => ?_) (fun c20 => ?_)
      · have hp := hp.1 c20
        refine lv_iconst (v := 0) hx hb dL_isDone_117 (by decide) ?_
        exact B_118 0 r3 (σ6) _ _ _  hP hD hS (lv_sub hl [] rfl) hp
      · have hp := hp.2 c20
        refine lv_iconst (v := 1) hx hb dL_isDone_113 (by decide) ?_
        refine lv_goto (tgt := 118) hx hb dL_isDone_114 (by decide) ?_
        exact B_118 1 r3 (σ6) _ _ _  hP hD hS (lv_sub hl [] rfl) hp
    · have hp := hp.2.1 ej14
      refine lv_tableIn (tgt := 125) (off := 80) hx hb dL_isDone_45 (by rw [ej14]; decide) (by rw [ej14]; decide) (by rw [ej14]; rfl) (by decide) ?_
      refine lv_aload_n hx hb dL_isDone_125 rfl (lv_at hl 3 rfl) ?_
      refine lv_iload_n hx hb dL_isDone_126 rfl (lv_at hl 2 rfl) ?_
      refine lv_iload_n hx hb dL_isDone_127 rfl (lv_at hl 4 rfl) ?_
      refine lv_bipush (v := 9) hx hb dL_isDone_128 (by decide) ?_
      refine lv_ishr hx hb dL_isDone_130 ?_
      refine lv_iconst (v := 3) hx hb dL_isDone_131 (by decide) ?_
      refine fw_ciS (As := [.int (p2 >>> (9 &&& 31)), .int 3]) (rest := [.int r3, .ref (ad 0)]) hC (c_L_below l D k hp) (va_cwS 2 hts (gB_L B_6 B_7 B_8 B_0) rfl rfl rfl (by decide +kernel) ⟨Nat.le_of_ble_eq_true rfl, Nat.le_of_ble_eq_true rfl⟩) rfl hl.1 rfl (Nat.le_of_ble_eq_true rfl) dL_isDone_132 ⟨Nat.le_of_ble_eq_true rfl, Nat.le_of_ble_eq_true rfl⟩ P_nil D_nil hS (Jn.pure (w0 := fun _ : Mem => []) hP hD) (fun r21 σ22 H locs hP hD hS hp => ?_)
      have hP : va_P D vwCl (W5 k ad (σ6)) H := hP
      have hD : va_D A (W5 k ad (σ6)) := hD
      refine lv_if_le (tgt := 142) hx hb dL_isDone_135 (by decide) (fun c23 => ?_) (fun c23 => ?_)
      · have hp := hp.1 c23
        refine lv_iconst (v := 0) hx hb dL_isDone_142 (by decide) ?_
        exact B_143 0 r3 (σ6) _ _ _  hP hD hS (lv_sub hl [] rfl) hp
      · have hp := hp.2 c23
        refine lv_iconst (v := 1) hx hb dL_isDone_138 (by decide) ?_
        refine lv_goto (tgt := 143) hx hb dL_isDone_139 (by decide) ?_
        exact B_143 1 r3 (σ6) _ _ _  hP hD hS (lv_sub hl [] rfl) hp
    · have hp := hp.2.2.1 ej14
      refine lv_tableIn (tgt := 125) (off := 80) hx hb dL_isDone_45 (by rw [ej14]; decide) (by rw [ej14]; decide) (by rw [ej14]; rfl) (by decide) ?_
      refine lv_aload_n hx hb dL_isDone_125 rfl (lv_at hl 3 rfl) ?_
      refine lv_iload_n hx hb dL_isDone_126 rfl (lv_at hl 2 rfl) ?_
      refine lv_iload_n hx hb dL_isDone_127 rfl (lv_at hl 4 rfl) ?_
      refine lv_bipush (v := 9) hx hb dL_isDone_128 (by decide) ?_
      refine lv_ishr hx hb dL_isDone_130 ?_
      refine lv_iconst (v := 3) hx hb dL_isDone_131 (by decide) ?_
      refine fw_ciS (As := [.int (p2 >>> (9 &&& 31)), .int 3]) (rest := [.int r3, .ref (ad 0)]) hC (c_L_below l D k hp) (va_cwS 2 hts (gB_L B_6 B_7 B_8 B_0) rfl rfl rfl (by decide +kernel) ⟨Nat.le_of_ble_eq_true rfl, Nat.le_of_ble_eq_true rfl⟩) rfl hl.1 rfl (Nat.le_of_ble_eq_true rfl) dL_isDone_132 ⟨Nat.le_of_ble_eq_true rfl, Nat.le_of_ble_eq_true rfl⟩ P_nil D_nil hS (Jn.pure (w0 := fun _ : Mem => []) hP hD) (fun r24 σ25 H locs hP hD hS hp => ?_)
      have hP : va_P D vwCl (W5 k ad (σ6)) H := hP
      have hD : va_D A (W5 k ad (σ6)) := hD
      refine lv_if_le (tgt := 142) hx hb dL_isDone_135 (by decide) (fun c26 => ?_) (fun c26 => ?_)
      · have hp := hp.1 c26
        refine lv_iconst (v := 0) hx hb dL_isDone_142 (by decide) ?_
        exact B_143 0 r3 (σ6) _ _ _  hP hD hS (lv_sub hl [] rfl) hp
      · have hp := hp.2 c26
        refine lv_iconst (v := 1) hx hb dL_isDone_138 (by decide) ?_
        refine lv_goto (tgt := 143) hx hb dL_isDone_139 (by decide) ?_
        exact B_143 1 r3 (σ6) _ _ _  hP hD hS (lv_sub hl [] rfl) hp
    · have hp := hp.2.2.2.1 ej14
      refine lv_tableIn (tgt := 150) (off := 105) hx hb dL_isDone_45 (by rw [ej14]; decide) (by rw [ej14]; decide) (by rw [ej14]; rfl) (by decide) ?_
      refine lv_aload_n hx hb dL_isDone_150 rfl (lv_at hl 3 rfl) ?_
      refine lv_iload_n hx hb dL_isDone_151 rfl (lv_at hl 1 rfl) ?_
      refine lv_iload_n hx hb dL_isDone_152 rfl (lv_at hl 4 rfl) ?_
      refine lv_bipush (v := 8) hx hb dL_isDone_153 (by decide) ?_
      refine lv_ishr hx hb dL_isDone_155 ?_
      refine lv_bipush (v := 10) hx hb dL_isDone_156 (by decide) ?_
      refine fw_ciS (As := [.int (p2 >>> (8 &&& 31)), .int 10]) (rest := [.int r7, .ref (ad 0)]) hC (c_L_below l D k hp) (va_cwS 2 hts (gB_L B_6 B_7 B_8 B_0) rfl rfl rfl (by decide +kernel) ⟨Nat.le_of_ble_eq_true rfl, Nat.le_of_ble_eq_true rfl⟩) rfl hl.1 rfl (Nat.le_of_ble_eq_true rfl) dL_isDone_158 ⟨Nat.le_of_ble_eq_true rfl, Nat.le_of_ble_eq_true rfl⟩ P_nil D_nil hS (Jn.pure (w0 := fun _ : Mem => []) hP hD) (fun r27 σ28 H locs hP hD hS hp => ?_)
      have hP : va_P D vwCl (W5 k ad (σ6)) H := hP
      have hD : va_D A (W5 k ad (σ6)) := hD
      have hFc := va_free0 hD hS hA
      refine vx_calli (vx_runV (g := F0 m 161 ls [.int r27, .int r7, .ref (ad 0)]) (As := [.int r7, .int r27]) (rest := []) hC.1 (c_X5_weight l hflag D k ad hp) (cwV 2 hts (gB_V B_48 B_49 B_50 (iB_A _ A_25) (iB_A _ A_239)) rfl rfl rfl (by decide +kernel) ⟨Nat.le_of_ble_eq_true rfl, Nat.le_of_ble_eq_true rfl⟩) ⟨Pw_blind, va_recv hK hP (ci := 5) (q0 := 0) rfl rfl, fw_pre hC hP hD hS⟩ rfl rfl hl.1 rfl (lv_room (Nat.le_of_ble_eq_true rfl)) dL_isDone_161 ⟨Nat.le_of_ble_eq_true rfl, Nat.le_of_ble_eq_true rfl⟩) hS (fun q _ h => hFc q h) hFc (fun q _ h => hFc q h) ?_ ?_
      · intro E ce q9 u t H1 locs1 ht hvm hpx hB hz hk hS1 hcell hcv hcl
        obtain ⟨E1, σ31⟩ := u
        obtain ⟨hE, hP1, hD1⟩ := hB
        subst hE
        rw [ht] at hP1
        obtain ⟨hP, hD⟩ := (Jn.same : Jn D A (W5 k ad (σ6)) H (fun u : Mem => W5 k ad u) (fun u : Mem => W5 k ad u)) σ31 H1 hP1 hD1 hz hk hFc
        obtain ⟨rfl, hp⟩ := hpx
        have hS := hS1
        refine vx_catch (name := eIS) (E := eIS) hown [] (tbE (39, 250, 260, 54)) [tbE (251, 259, 260, 54)] htb (fun z hz => by simp at hz) rfl (by decide) (hts _ (List.mem_cons_of_mem _ B_4)) (va_Nw.use rfl (GG.nc hG (q := ("java/lang/IllegalStateException", "java/lang/IllegalStateException")) 1 rfl)) hcell hcv hcl ?_
        refine lv_astore (lv' := [(5, .ref q9), (4, .int r9), (3, .int r7), (2, .int r3), (0, .ref (ad 0)), (1, .int p2)]) hx hb dL_isDone_260 hl (by decide) rfl (fun ls hl => ?_)
        exact B_262  (σ31) _ _ _  hP hD hS (lv_sub hl [] rfl) hp
      · intro r29 σ30 t H1 locs1 ht hvm hp hB hz hk hS1
        obtain ⟨hP1, hD1⟩ := hB
        rw [ht] at hP1
        obtain ⟨hP, hD⟩ := (Jn.same : Jn D A (W5 k ad (σ6)) H (fun u : Mem => W5 k ad u) (fun u : Mem => W5 k ad u)) σ30 H1 hP1 hD1 hz hk hFc
        have hS := hS1
        refine lv_pop hx hb dL_isDone_164 rfl ?_
        refine lv_goto (tgt := 258) hx hb dL_isDone_165 (by decide) ?_
        exact B_258  (σ30) _ _ _  hP hD hS (lv_sub hl [] rfl) hp
    · have hp := hp.2.2.2.2.1 ej14
      refine lv_tableIn (tgt := 168) (off := 123) hx hb dL_isDone_45 (by rw [ej14]; decide) (by rw [ej14]; decide) (by rw [ej14]; rfl) (by decide) ?_
      refine lv_aload_n hx hb dL_isDone_168 rfl (lv_at hl 3 rfl) ?_
      have hFc := va_free0 hD hS hA
      refine vx_calli (vx_runV (g := F0 m 169 ls [.ref (ad 0)]) (As := []) (rest := []) hC.1 (c_X5_commit l hflag D k ad hp) (cwV 0 hts (gB_V B_51 B_52 B_53 (iB_A _ A_25) (iB_A _ A_240)) rfl rfl rfl (by decide +kernel) ⟨Nat.le_of_ble_eq_true rfl, Nat.le_of_ble_eq_true rfl⟩) ⟨Pw_blind, va_recv hK hP (ci := 5) (q0 := 0) rfl rfl, fw_pre hC hP hD hS⟩ rfl rfl hl.1 rfl (lv_room (Nat.le_of_ble_eq_true rfl)) dL_isDone_169 ⟨Nat.le_of_ble_eq_true rfl, Nat.le_of_ble_eq_true rfl⟩) hS (fun q _ h => hFc q h) hFc (fun q _ h => hFc q h) ?_ ?_
      · intro E ce q9 u t H1 locs1 ht hvm hpx hB hz hk hS1 hcell hcv hcl
        obtain ⟨E1, σ34⟩ := u
        obtain ⟨hE, hP1, hD1⟩ := hB
        subst hE
        rw [ht] at hP1
        obtain ⟨hP, hD⟩ := (Jn.same : Jn D A (W5 k ad (σ6)) H (fun u : Mem => W5 k ad u) (fun u : Mem => W5 k ad u)) σ34 H1 hP1 hD1 hz hk hFc
        obtain ⟨rfl, hp⟩ := hpx
        have hS := hS1
        refine vx_catch (name := eIS) (E := eIS) hown [] (tbE (39, 250, 260, 54)) [tbE (251, 259, 260, 54)] htb (fun z hz => by simp at hz) rfl (by decide) (hts _ (List.mem_cons_of_mem _ B_4)) (va_Nw.use rfl (GG.nc hG (q := ("java/lang/IllegalStateException", "java/lang/IllegalStateException")) 1 rfl)) hcell hcv hcl ?_
        refine lv_astore (lv' := [(5, .ref q9), (4, .int r9), (3, .int r7), (2, .int r3), (0, .ref (ad 0)), (1, .int p2)]) hx hb dL_isDone_260 hl (by decide) rfl (fun ls hl => ?_)
        exact B_262  (σ34) _ _ _  hP hD hS (lv_sub hl [] rfl) hp
      · intro r32 σ33 t H1 locs1 ht hvm hp hB hz hk hS1
        obtain ⟨hP1, hD1⟩ := hB
        rw [ht] at hP1
        obtain ⟨hP, hD⟩ := (Jn.same : Jn D A (W5 k ad (σ6)) H (fun u : Mem => W5 k ad u) (fun u : Mem => W5 k ad u)) σ33 H1 hP1 hD1 hz hk hFc
        have hS := hS1
        refine lv_pop hx hb dL_isDone_172 rfl ?_
        refine lv_goto (tgt := 258) hx hb dL_isDone_173 (by decide) ?_
        exact B_258  (σ33) _ _ _  hP hD hS (lv_sub hl [] rfl) hp
    · have hp := hp.2.2.2.2.2.1 ej14
      refine lv_tableIn (tgt := 168) (off := 123) hx hb dL_isDone_45 (by rw [ej14]; decide) (by rw [ej14]; decide) (by rw [ej14]; rfl) (by decide) ?_
      refine lv_aload_n hx hb dL_isDone_168 rfl (lv_at hl 3 rfl) ?_
      have hFc := va_free0 hD hS hA
      refine vx_calli (vx_runV (g := F0 m 169 ls [.ref (ad 0)]) (As := []) (rest := []) hC.1 (c_X5_commit l hflag D k ad hp) (cwV 0 hts (gB_V B_51 B_52 B_53 (iB_A _ A_25) (iB_A _ A_240)) rfl rfl rfl (by decide +kernel) ⟨Nat.le_of_ble_eq_true rfl, Nat.le_of_ble_eq_true rfl⟩) ⟨Pw_blind, va_recv hK hP (ci := 5) (q0 := 0) rfl rfl, fw_pre hC hP hD hS⟩ rfl rfl hl.1 rfl (lv_room (Nat.le_of_ble_eq_true rfl)) dL_isDone_169 ⟨Nat.le_of_ble_eq_true rfl, Nat.le_of_ble_eq_true rfl⟩) hS (fun q _ h => hFc q h) hFc (fun q _ h => hFc q h) ?_ ?_
      · intro E ce q9 u t H1 locs1 ht hvm hpx hB hz hk hS1 hcell hcv hcl
        obtain ⟨E1, σ37⟩ := u
        obtain ⟨hE, hP1, hD1⟩ := hB
        subst hE
        rw [ht] at hP1
        obtain ⟨hP, hD⟩ := (Jn.same : Jn D A (W5 k ad (σ6)) H (fun u : Mem => W5 k ad u) (fun u : Mem => W5 k ad u)) σ37 H1 hP1 hD1 hz hk hFc
        obtain ⟨rfl, hp⟩ := hpx
        have hS := hS1
        refine vx_catch (name := eIS) (E := eIS) hown [] (tbE (39, 250, 260, 54)) [tbE (251, 259, 260, 54)] htb (fun z hz => by simp at hz) rfl (by decide) (hts _ (List.mem_cons_of_mem _ B_4)) (va_Nw.use rfl (GG.nc hG (q := ("java/lang/IllegalStateException", "java/lang/IllegalStateException")) 1 rfl)) hcell hcv hcl ?_
        refine lv_astore (lv' := [(5, .ref q9), (4, .int r9), (3, .int r7), (2, .int r3), (0, .ref (ad 0)), (1, .int p2)]) hx hb dL_isDone_260 hl (by decide) rfl (fun ls hl => ?_)
        exact B_262  (σ37) _ _ _  hP hD hS (lv_sub hl [] rfl) hp
      · intro r35 σ36 t H1 locs1 ht hvm hp hB hz hk hS1
        obtain ⟨hP1, hD1⟩ := hB
        rw [ht] at hP1
        obtain ⟨hP, hD⟩ := (Jn.same : Jn D A (W5 k ad (σ6)) H (fun u : Mem => W5 k ad u) (fun u : Mem => W5 k ad u)) σ36 H1 hP1 hD1 hz hk hFc
        have hS := hS1
        refine lv_pop hx hb dL_isDone_172 rfl ?_
        refine lv_goto (tgt := 258) hx hb dL_isDone_173 (by decide) ?_
        exact B_258  (σ36) _ _ _  hP hD hS (lv_sub hl [] rfl) hp
    · have hp := hp.2.2.2.2.2.2.1 ej14
      refine lv_tableIn (tgt := 176) (off := 131) hx hb dL_isDone_45 (by rw [ej14]; decide) (by rw [ej14]; decide) (by rw [ej14]; rfl) (by decide) ?_
      refine lv_aload_n hx hb dL_isDone_176 rfl (lv_at hl 3 rfl) ?_
      refine lv_iconst (v := 5) hx hb dL_isDone_177 (by decide) ?_
      refine fw_ciV (As := [.int 5]) (rest := []) hC (c0_X5_house l D k ad hp) (cwV 1 hts (gB_V B_5 (iB_A _ A_318) (iB_A _ A_319) (iB_A _ A_25) (iB_A _ A_298)) rfl rfl rfl (by decide +kernel) ⟨Nat.le_of_ble_eq_true rfl, Nat.le_of_ble_eq_true rfl⟩) (va_recv hK hP (ci := 5) (q0 := 0) rfl rfl) rfl hl.1 rfl (Nat.le_of_ble_eq_true rfl) dL_isDone_178 ⟨Nat.le_of_ble_eq_true rfl, Nat.le_of_ble_eq_true rfl⟩ hP hD hS Jn.same (fun r38 σ39 H locs hP hD hS hp => ?_)
      have hP : va_P D vwCl (W5 k ad (σ39)) H := hP
      have hD : va_D A (W5 k ad (σ39)) := hD
      refine lv_if_le (tgt := 258) hx hb dL_isDone_181 (by decide) (fun c40 => ?_) (fun c40 => ?_)
      · have hp := hp.1 c40
        refine W.widen (k := 1) (n := 6) (Nat.le_of_ble_eq_true rfl) (Nat.le_of_ble_eq_true rfl) ?_
        exact B_258  (σ39) _ _ _  hP hD hS (lv_sub hl [] rfl) hp
      · have hp := hp.2 c40
        refine lv_aload_n hx hb dL_isDone_184 rfl (lv_at hl 3 rfl) ?_
        refine lv_iload_n hx hb dL_isDone_185 rfl (lv_at hl 4 rfl) ?_
        refine lv_bipush (v := 9) hx hb dL_isDone_186 (by decide) ?_
        refine lv_ishr hx hb dL_isDone_188 ?_
        refine lv_aload_n hx hb dL_isDone_189 rfl (lv_at hl 3 rfl) ?_
        refine lv_iconst (v := 5) hx hb dL_isDone_190 (by decide) ?_
        refine fw_ciV (As := [.int 5]) (rest := [.int (p2 >>> (9 &&& 31)), .ref (ad 0)]) hC (c0_X5_house l D k ad hp) (cwV 1 hts (gB_V B_5 (iB_A _ A_318) (iB_A _ A_319) (iB_A _ A_25) (iB_A _ A_298)) rfl rfl rfl (by decide +kernel) ⟨Nat.le_of_ble_eq_true rfl, Nat.le_of_ble_eq_true rfl⟩) (va_recv hK hP (ci := 5) (q0 := 0) rfl rfl) rfl hl.1 rfl (Nat.le_of_ble_eq_true rfl) dL_isDone_191 ⟨Nat.le_of_ble_eq_true rfl, Nat.le_of_ble_eq_true rfl⟩ hP hD hS Jn.same (fun r41 σ42 H locs hP hD hS hp => ?_)
        have hP : va_P D vwCl (W5 k ad (σ42)) H := hP
        have hD : va_D A (W5 k ad (σ42)) := hD
        refine fw_ciS (As := [.int (p2 >>> (9 &&& 31)), .int r41]) (rest := [.ref (ad 0)]) hC (c_L_below l D k hp) (va_cwS 2 hts (gB_L B_6 B_7 B_8 B_0) rfl rfl rfl (by decide +kernel) ⟨Nat.le_of_ble_eq_true rfl, Nat.le_of_ble_eq_true rfl⟩) rfl hl.1 rfl (Nat.le_of_ble_eq_true rfl) dL_isDone_194 ⟨Nat.le_of_ble_eq_true rfl, Nat.le_of_ble_eq_true rfl⟩ P_nil D_nil hS (Jn.pure (w0 := fun _ : Mem => []) hP hD) (fun r43 σ44 H locs hP hD hS hp => ?_)
        have hP : va_P D vwCl (W5 k ad (σ42)) H := hP
        have hD : va_D A (W5 k ad (σ42)) := hD
        refine lv_iload_n hx hb dL_isDone_197 rfl (lv_at hl 4 rfl) ?_
        refine lv_iconst (v := 3) hx hb dL_isDone_198 (by decide) ?_
        refine lv_ishr hx hb dL_isDone_199 ?_
        refine lv_bipush (v := 64) hx hb dL_isDone_200 (by decide) ?_
        refine fw_ciS (As := [.int (p2 >>> (3 &&& 31)), .int 64]) (rest := [.int r43, .ref (ad 0)]) hC (c_L_below l D k hp) (va_cwS 2 hts (gB_L B_6 B_7 B_8 B_0) rfl rfl rfl (by decide +kernel) ⟨Nat.le_of_ble_eq_true rfl, Nat.le_of_ble_eq_true rfl⟩) rfl hl.1 rfl (Nat.le_of_ble_eq_true rfl) dL_isDone_202 ⟨Nat.le_of_ble_eq_true rfl, Nat.le_of_ble_eq_true rfl⟩ P_nil D_nil hS (Jn.pure (w0 := fun _ : Mem => []) hP hD) (fun r45 σ46 H locs hP hD hS hp => ?_)
        have hP : va_P D vwCl (W5 k ad (σ42)) H := hP
        have hD : va_D A (W5 k ad (σ42)) := hD
        have hFc := va_free0 hD hS hA
        refine vx_calli (vx_runV (g := F0 m 205 ls [.int r45, .int r43, .ref (ad 0)]) (As := [.int r43, .int r45]) (rest := []) hC.1 (c_X5_wave l hflag D k ad hp) (cwV 2 hts (gB_V B_54 B_55 B_56 (iB_A _ A_25) (iB_A _ A_256)) rfl rfl rfl (by decide +kernel) ⟨Nat.le_of_ble_eq_true rfl, Nat.le_of_ble_eq_true rfl⟩) ⟨Pw_blind, va_recv hK hP (ci := 5) (q0 := 0) rfl rfl, fw_pre hC hP hD hS⟩ rfl rfl hl.1 rfl (lv_room (Nat.le_of_ble_eq_true rfl)) dL_isDone_205 ⟨Nat.le_of_ble_eq_true rfl, Nat.le_of_ble_eq_true rfl⟩) hS (fun q _ h => hFc q h) hFc (fun q _ h => hFc q h) ?_ ?_
        · intro E ce q9 u t H1 locs1 ht hvm hpx hB hz hk hS1 hcell hcv hcl
          obtain ⟨E1, σ49⟩ := u
          obtain ⟨hE, hP1, hD1⟩ := hB
          subst hE
          rw [ht] at hP1
          obtain ⟨hP, hD⟩ := (Jn.same : Jn D A (W5 k ad (σ42)) H (fun u : Mem => W5 k ad u) (fun u : Mem => W5 k ad u)) σ49 H1 hP1 hD1 hz hk hFc
          obtain ⟨rfl, hp⟩ := hpx
          have hS := hS1
          refine vx_catch (name := eIS) (E := eIS) hown [] (tbE (39, 250, 260, 54)) [tbE (251, 259, 260, 54)] htb (fun z hz => by simp at hz) rfl (by decide) (hts _ (List.mem_cons_of_mem _ B_4)) (va_Nw.use rfl (GG.nc hG (q := ("java/lang/IllegalStateException", "java/lang/IllegalStateException")) 1 rfl)) hcell hcv hcl ?_
          refine lv_astore (lv' := [(5, .ref q9), (4, .int r9), (3, .int r7), (2, .int r3), (0, .ref (ad 0)), (1, .int p2)]) hx hb dL_isDone_260 hl (by decide) rfl (fun ls hl => ?_)
          exact B_262  (σ49) _ _ _  hP hD hS (lv_sub hl [] rfl) hp
        · intro r47 σ48 t H1 locs1 ht hvm hp hB hz hk hS1
          obtain ⟨hP1, hD1⟩ := hB
          rw [ht] at hP1
          obtain ⟨hP, hD⟩ := (Jn.same : Jn D A (W5 k ad (σ42)) H (fun u : Mem => W5 k ad u) (fun u : Mem => W5 k ad u)) σ48 H1 hP1 hD1 hz hk hFc
          have hS := hS1
          refine lv_pop hx hb dL_isDone_208 rfl ?_
          refine lv_goto (tgt := 258) hx hb dL_isDone_209 (by decide) ?_
          exact B_258  (σ48) _ _ _  hP hD hS (lv_sub hl [] rfl) hp
    · have hp := hp.2.2.2.2.2.2.2.1 ej14
      refine lv_tableIn (tgt := 212) (off := 167) hx hb dL_isDone_45 (by rw [ej14]; decide) (by rw [ej14]; decide) (by rw [ej14]; rfl) (by decide) ?_
      refine lv_aload_n hx hb dL_isDone_212 rfl (lv_at hl 3 rfl) ?_
      refine lv_iload hx hb dL_isDone_213 (lv_at hl 0 rfl) ?_
      refine lv_iload_n hx hb dL_isDone_215 rfl (lv_at hl 1 rfl) ?_
      refine lv_iload_n hx hb dL_isDone_216 rfl (lv_at hl 4 rfl) ?_
      refine lv_bipush (v := 9) hx hb dL_isDone_217 (by decide) ?_
      refine lv_ishr hx hb dL_isDone_219 ?_
      refine lv_bipush (v := 8) hx hb dL_isDone_220 (by decide) ?_
      refine fw_ciS (As := [.int (p2 >>> (9 &&& 31)), .int 8]) (rest := [.int r7, .int r9, .ref (ad 0)]) hC (c_L_below l D k hp) (va_cwS 2 hts (gB_L B_6 B_7 B_8 B_0) rfl rfl rfl (by decide +kernel) ⟨Nat.le_of_ble_eq_true rfl, Nat.le_of_ble_eq_true rfl⟩) rfl hl.1 rfl (Nat.le_of_ble_eq_true rfl) dL_isDone_222 ⟨Nat.le_of_ble_eq_true rfl, Nat.le_of_ble_eq_true rfl⟩ P_nil D_nil hS (Jn.pure (w0 := fun _ : Mem => []) hP hD) (fun r50 σ51 H locs hP hD hS hp => ?_)
      have hP : va_P D vwCl (W5 k ad (σ6)) H := hP
      have hD : va_D A (W5 k ad (σ6)) := hD
      have hFc := va_free0 hD hS hA
      refine vx_calli (vx_runV (g := F0 m 225 ls [.int r50, .int r7, .int r9, .ref (ad 0)]) (As := [.int r9, .int r7, .int r50]) (rest := []) hC.1 (c_X5_patch l hflag D k ad hp) (cwV 3 hts (gB_V B_57 B_58 B_59 (iB_A _ A_25) (iB_A _ A_258)) rfl rfl rfl (by decide +kernel) ⟨Nat.le_of_ble_eq_true rfl, Nat.le_of_ble_eq_true rfl⟩) ⟨Pw_blind, va_recv hK hP (ci := 5) (q0 := 0) rfl rfl, fw_pre hC hP hD hS⟩ rfl rfl hl.1 rfl (lv_room (Nat.le_of_ble_eq_true rfl)) dL_isDone_225 ⟨Nat.le_of_ble_eq_true rfl, Nat.le_of_ble_eq_true rfl⟩) hS (fun q _ h => hFc q h) hFc (fun q _ h => hFc q h) ?_ ?_
      · intro E ce q9 u t H1 locs1 ht hvm hpx hB hz hk hS1 hcell hcv hcl
        obtain ⟨E1, σ54⟩ := u
        obtain ⟨hE, hP1, hD1⟩ := hB
        subst hE
        rw [ht] at hP1
        obtain ⟨hP, hD⟩ := (Jn.same : Jn D A (W5 k ad (σ6)) H (fun u : Mem => W5 k ad u) (fun u : Mem => W5 k ad u)) σ54 H1 hP1 hD1 hz hk hFc
        obtain ⟨rfl, hp⟩ := hpx
        have hS := hS1
        refine vx_catch (name := eIS) (E := eIS) hown [] (tbE (39, 250, 260, 54)) [tbE (251, 259, 260, 54)] htb (fun z hz => by simp at hz) rfl (by decide) (hts _ (List.mem_cons_of_mem _ B_4)) (va_Nw.use rfl (GG.nc hG (q := ("java/lang/IllegalStateException", "java/lang/IllegalStateException")) 1 rfl)) hcell hcv hcl ?_
        refine lv_astore (lv' := [(5, .ref q9), (4, .int r9), (3, .int r7), (2, .int r3), (0, .ref (ad 0)), (1, .int p2)]) hx hb dL_isDone_260 hl (by decide) rfl (fun ls hl => ?_)
        exact B_262  (σ54) _ _ _  hP hD hS (lv_sub hl [] rfl) hp
      · intro r52 σ53 t H1 locs1 ht hvm hp hB hz hk hS1
        obtain ⟨hP1, hD1⟩ := hB
        rw [ht] at hP1
        obtain ⟨hP, hD⟩ := (Jn.same : Jn D A (W5 k ad (σ6)) H (fun u : Mem => W5 k ad u) (fun u : Mem => W5 k ad u)) σ53 H1 hP1 hD1 hz hk hFc
        have hS := hS1
        refine lv_pop hx hb dL_isDone_228 rfl ?_
        refine lv_goto (tgt := 258) hx hb dL_isDone_229 (by decide) ?_
        exact B_258  (σ53) _ _ _  hP hD hS (lv_sub hl [] rfl) hp
    · have hp := hp.2.2.2.2.2.2.2.2.1 ej14
      refine lv_tableIn (tgt := 232) (off := 187) hx hb dL_isDone_45 (by rw [ej14]; decide) (by rw [ej14]; decide) (by rw [ej14]; rfl) (by decide) ?_
      refine lv_aload_n hx hb dL_isDone_232 rfl (lv_at hl 3 rfl) ?_
      refine lv_iload hx hb dL_isDone_233 (lv_at hl 0 rfl) ?_
      refine lv_iload_n hx hb dL_isDone_235 rfl (lv_at hl 1 rfl) ?_
      have hFc := va_free0 hD hS hA
      refine vx_calli (vx_runV (g := F0 m 236 ls [.int r7, .int r9, .ref (ad 0)]) (As := [.int r9, .int r7]) (rest := []) hC.1 (c_X5_absorb l hflag D k ad hp) (cwV 2 hts (gB_V B_60 B_61 B_62 (iB_A _ A_25) (iB_A _ A_264)) rfl rfl rfl (by decide +kernel) ⟨Nat.le_of_ble_eq_true rfl, Nat.le_of_ble_eq_true rfl⟩) ⟨Pw_blind, va_recv hK hP (ci := 5) (q0 := 0) rfl rfl, fw_pre hC hP hD hS⟩ rfl rfl hl.1 rfl (lv_room (Nat.le_of_ble_eq_true rfl)) dL_isDone_236 ⟨Nat.le_of_ble_eq_true rfl, Nat.le_of_ble_eq_true rfl⟩) hS (fun q _ h => hFc q h) hFc (fun q _ h => hFc q h) ?_ ?_
      · intro E ce q9 u t H1 locs1 ht hvm hpx hB hz hk hS1 hcell hcv hcl
        obtain ⟨E1, σ57⟩ := u
        obtain ⟨hE, hP1, hD1⟩ := hB
        subst hE
        rw [ht] at hP1
        obtain ⟨hP, hD⟩ := (Jn.same : Jn D A (W5 k ad (σ6)) H (fun u : Mem => W5 k ad u) (fun u : Mem => W5 k ad u)) σ57 H1 hP1 hD1 hz hk hFc
        obtain ⟨rfl, hp⟩ := hpx
        have hS := hS1
        refine vx_catch (name := eIS) (E := eIS) hown [] (tbE (39, 250, 260, 54)) [tbE (251, 259, 260, 54)] htb (fun z hz => by simp at hz) rfl (by decide) (hts _ (List.mem_cons_of_mem _ B_4)) (va_Nw.use rfl (GG.nc hG (q := ("java/lang/IllegalStateException", "java/lang/IllegalStateException")) 1 rfl)) hcell hcv hcl ?_
        refine lv_astore (lv' := [(5, .ref q9), (4, .int r9), (3, .int r7), (2, .int r3), (0, .ref (ad 0)), (1, .int p2)]) hx hb dL_isDone_260 hl (by decide) rfl (fun ls hl => ?_)
        exact B_262  (σ57) _ _ _  hP hD hS (lv_sub hl [] rfl) hp
      · intro r55 σ56 t H1 locs1 ht hvm hp hB hz hk hS1
        obtain ⟨hP1, hD1⟩ := hB
        rw [ht] at hP1
        obtain ⟨hP, hD⟩ := (Jn.same : Jn D A (W5 k ad (σ6)) H (fun u : Mem => W5 k ad u) (fun u : Mem => W5 k ad u)) σ56 H1 hP1 hD1 hz hk hFc
        have hS := hS1
        refine lv_pop hx hb dL_isDone_239 rfl ?_
        refine lv_goto (tgt := 258) hx hb dL_isDone_240 (by decide) ?_
        exact B_258  (σ56) _ _ _  hP hD hS (lv_sub hl [] rfl) hp
    · have hp := hp.2.2.2.2.2.2.2.2.2 ej14
      refine lv_tableIn (tgt := 243) (off := 198) hx hb dL_isDone_45 (by rw [ej14]; decide) (by rw [ej14]; decide) (by rw [ej14]; rfl) (by decide) ?_
      refine lv_aload_n hx hb dL_isDone_243 rfl (lv_at hl 3 rfl) ?_
      refine lv_iload_n hx hb dL_isDone_244 rfl (lv_at hl 4 rfl) ?_
      refine lv_iconst (v := 3) hx hb dL_isDone_245 (by decide) ?_
      refine lv_ishr hx hb dL_isDone_246 ?_
      refine fw_ciSX (As := [.ref (ad 0), .int (p2 >>> (3 &&& 31))]) (rest := []) hC (c_L_tell l hflag D k ad hp) (vx_cwSW 2 hts (gB_L B_35 B_36 B_8 B_25) rfl rfl rfl (by decide +kernel) ⟨Nat.le_of_ble_eq_true rfl, Nat.le_of_ble_eq_true rfl⟩) rfl hl.1 rfl (Nat.le_of_ble_eq_true rfl) dL_isDone_247 ⟨Nat.le_of_ble_eq_true rfl, Nat.le_of_ble_eq_true rfl⟩ hP hD hS Jn.same (fun r58 σ59 H locs hP hD hS hp => ?_)
      have hP : va_P D vwCl (W5 k ad (σ59)) H := hP
      have hD : va_D A (W5 k ad (σ59)) := hD
      exact hret r58 (σ59) _ _ _ _ _ _ dL_isDone_250 hp.1.1 hP hD hS (Nat.le_of_ble_eq_true rfl) (Nat.le_of_ble_eq_true rfl) hp.2
