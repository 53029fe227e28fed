/-! FRAME: what every method of this claim is said by. A memory is places and indices; a world is a list of cells that a state is read off -/
abbrev Mem : Type := Nat → Nat → Int32
/-- one number written -/
def mst (σ : Mem) (p j : Nat) (x : Int32) : Mem := fun q => bif Nat.beq q p then upd (σ p) j x else σ q
/-- a whole row written -/
def mup (σ : Mem) (p : Nat) (f : Nat → Int32) : Mem := fun q => bif Nat.beq q p then f else σ q
abbrev tyG (k : Nat → Nat) : List (ClassId × FieldType) := [(k 0, .int), (k 1, .boolean), (k 2, .array .int), (k 3, .object "java/lang/Object"), (k 4, .byte)]
abbrev sxN : List (Nat × String) := [(107, "weight is not 0 to 9"), (126, "there is a contradiction, or there are 12 commits"), (138, "no such commit"), (140, "machines is not 0 to 63"), (152, "no such machine or field"), (154, "number is not 0 to 7"), (163, "that does not drift there, or there are 30 lines"), (188, "what is not 0 to 6"), (208, "machine is not 0 to 5"), (216, "what is not 0 to 2"), (218, "no such commit or field"), (236, "what is not 0 to 8"), (252, "lines is no set of lines that there are"), (42, "team is not 0 to 3"), (52, "there are 5 fields"), (67, "no such field"), (70, "team is not 0 to 3, or set not 1 to 255"), (75, "there are 30 lines"), (84, "team is not 0 to 3, or number not 0 to 7"), (86, "team is not 0 to 3, both are the same, or by is not -7 to 7"), (88, "team is not 0 to 3, or both are the same"), (90, "team is not 0 to 3, number not 0 to 7, or rank not 0 to 9"), (95, "no such line")]
/-- links to nest mates, casts -/
abbrev nsM : List (String × Nat × MethodName × String) := [(RX5, 9, yX2_init, "Meetjoin"), (RX0, 69, yX5_contains, "Meetjoin"), (RX3, 45, yX5_contains, "Meetjoin"), (RX4, 91, yX5_contains, "Meetjoin"), (RX8, 90, yX7_init, "MeetjoinModel")]
abbrev nsF : List (String × Nat × String × String × String × String) := [("MeetjoinLaw", 13, "MeetjoinLaw$Out", "n", "J", "MeetjoinLaw"), ("MeetjoinLaw", 89, "MeetjoinLaw$Out", "s", "Ljava/lang/String;", "MeetjoinLaw"), (RX8, 56, "MeetjoinModel$Line", "isWithdrawn", "Z", "MeetjoinModel"), (RX8, 62, "MeetjoinModel$Line", "team", "I", "MeetjoinModel"), (RX8, 65, "MeetjoinModel$Line", "field", "I", "MeetjoinModel"), (RX8, 68, "MeetjoinModel$Line", "isApproved", "Z", "MeetjoinModel"), (RX8, 79, "MeetjoinModel$Line", "kind", "I", "MeetjoinModel"), (RX8, 91, "MeetjoinModel$Line", "what", "I", "MeetjoinModel"), (RX8, 94, "MeetjoinModel$Line", "by", "I", "MeetjoinModel"), (RJx35411, 28, "java/util/ArrayList", "size", "I", "java/util/ArrayList")]
abbrev nsC : List (String × String) := [("MeetjoinModel$Line", "java/lang/Object"), ("[I", "java/lang/Object"), ("java/util/ArrayList$Itr", "java/util/Iterator"), ("java/util/ArrayList$Itr", "java/lang/Object"), ("java/lang/IllegalArgumentException", "java/lang/IllegalArgumentException"), ("java/lang/IllegalStateException", "java/lang/IllegalStateException"), ("java/lang/IndexOutOfBoundsException", "java/lang/IndexOutOfBoundsException")]
def itH : MethodName := ⟨"java/util/Iterator", "hasNext", "()Z"⟩
def itN : MethodName := ⟨"java/util/Iterator", "next", "()Ljava/lang/Object;"⟩
theorem va_AOA.moved {T : FieldType} {u U : State} (hvm : u.vm.Alike U.vm) (h : va_AOA T u) : va_AOA T U := by
  have h1 : (Cond.arrayOver (.array T)).before #[] (u.setVm U.vm) = true := by rw [Cond.arrayOver_setVmC hvm]; exact h
  exact h1
/-- what holds of the machine's own things in any state of a run: classes, String constants, statics that nobody writes -/
def GG (D : va_G) (k : Nat → Nat) (A : Nat → Prop) (U : State) (H : Heap) : Prop :=
  va_K D vwCl (tyG k) U ∧
  (U.vm.findClass "[I" = some (k 0) ∧ U.vm.findClass "[Z" = some (k 1) ∧ U.vm.findClass "[[I" = some (k 2) ∧ U.vm.findClass "[Ljava/lang/Object;" = some (k 3) ∧ U.vm.findClass "[B" = some (k 4)) ∧
  (∀ q ∈ sxN, vk_R RX5 q.1 q.2 (k (1000 + q.1)) U) ∧
  (vx_Zq Bundle.tN "UNASSIGNED_STACK" Bundle.steD A U H ∧ vx_Zq Bundle.tN "SUPPRESSED_SENTINEL" Bundle.listD A U H) ∧
  (vk_R RX8 253 "" (k 30) U ∧ vk_R RX8 257 "!" (k 31) U ∧ vk_S 2 [0, 1] [[], [33]] (fun i => k (30 + i)) (fun i => k (32 + i)) A U H) ∧
  (va_Z RJ0 "COMPACT_STRINGS" "Z" (.int 1) A U H) ∧
  (va_Z RJx4a65c "DEFAULTCAPACITY_EMPTY_ELEMENTDATA" "[Ljava/lang/Object;" (.ref (k 10)) A U H ∧ va_T (.object "java/lang/Object") (k 10) 0 (fun _ => .null) A U H) ∧
  (va_Z RJ6 "DigitOnes" "[B" (.ref (k 11)) A U H ∧ va_T .byte (k 11) 100 (fun j => .int (nI (48 + j % 10))) A U H) ∧
  (va_Z RJ6 "DigitTens" "[B" (.ref (k 12)) A U H ∧ va_T .byte (k 12) 100 (fun j => .int (nI (48 + j / 10))) A U H) ∧
  (∀ q ∈ nsM, va_Nw (.methodLinkNest q.1 q.2.1 q.2.2.1 q.2.2.2) U) ∧ (∀ q ∈ nsF, va_Nw (.fieldLinkNest q.1 q.2.1 q.2.2.1 q.2.2.2.1 q.2.2.2.2.1 q.2.2.2.2.2) U) ∧ (∀ q ∈ nsC, va_Nw (.castable q.1 q.2) U) ∧ (∀ q ∈ dcN, va_Nw (.declares q) U) ∧
  (va_Fw RJx35411 itH yJx35411_hasNext_aae02 U ∧ va_Fw RJx35411 itN yJx35411_next_0502b U) ∧ (va_Dc U ∧ va_Mi "[Ljava/lang/Object;" (k 20) U) ∧ va_AO "java/lang/Object" U ∧ va_AOA .int U
theorem GG_step {D : va_G} {k : Nat → Nat} {A A' : Nat → Prop} {s U : State} {H : Heap} {locs : List Loc} (h : GG D k A s s.heap) (hS : va_S A s.heap H locs) (hU : U.heap = H) (hW : s.WarmedH U.vm) (hAA : ∀ q : Nat, A' q → A q) : GG D k A' U U.heap := by
  have hv := hW.alike
  have hq : ∀ a : Nat, a < s.heap.size → ¬ A a → U.heap[a]? = s.heap[a]? := fun a h1 h2 => by rw [hU]; exact hS.2.1 a h1 h2
  have hf : ∀ C : String, U.vm.findClass C = s.vm.findClass C := fun C => by first | rw [hv.findClass] | rw [← hv.findClass]
  obtain ⟨h1, ⟨c1, c2, c3, c4, c5⟩, h3, ⟨z1, z2⟩, ⟨v1, v2, v3⟩, p1, ⟨e1, e2⟩, ⟨d1, d2⟩, ⟨d3, d4⟩, n1, n2, n3, n4, ⟨f1, f2⟩, ⟨dc, mi⟩, ao, aa⟩ := h
  refine ⟨h1.moved hv, ⟨by rw [hf]; exact c1, by rw [hf]; exact c2, by rw [hf]; exact c3, by rw [hf]; exact c4, by rw [hf]; exact c5⟩, fun q hq9 => (h3 q hq9).warm hW, ⟨((z1.moved hv).kept hq).narrow hAA, ((z2.moved hv).kept hq).narrow hAA⟩, ⟨v1.warm hW, v2.warm hW, ((v3.moved hv).kept hq).narrow hAA⟩, ((p1.moved hv).kept hq).narrow hAA, ⟨((e1.moved hv).kept hq).narrow hAA, ((e2.moved hv).kept hq).narrow hAA⟩, ⟨((d1.moved hv).kept hq).narrow hAA, ((d2.moved hv).kept hq).narrow hAA⟩, ⟨((d3.moved hv).kept hq).narrow hAA, ((d4.moved hv).kept hq).narrow hAA⟩, fun q h9 => (n1 q h9).warmM hW, fun q h9 => (n2 q h9).warmF hW, fun q h9 => (n3 q h9).warmC hW, fun q h9 => (n4 q h9).warmD hW, ⟨f1.moved (by decide) hv, f2.moved (by decide) hv⟩, ⟨dc.moved hv, mi.moved hv⟩, ao.moved hv, aa.moved hv⟩
theorem GG.nm {D : va_G} {k : Nat → Nat} {A : Nat → Prop} {U : State} {H : Heap} (h : GG D k A U H) {q : String × Nat × MethodName × String} (i : Nat) (hq : nsM[i]? = some q) : va_Nw (.methodLinkNest q.1 q.2.1 q.2.2.1 q.2.2.2) U := h.2.2.2.2.2.2.2.2.2.1 q (List.mem_of_getElem? hq)
theorem GG.nf {D : va_G} {k : Nat → Nat} {A : Nat → Prop} {U : State} {H : Heap} (h : GG D k A U H) {q : String × Nat × String × String × String × String} (i : Nat) (hq : nsF[i]? = some q) : va_Nw (.fieldLinkNest q.1 q.2.1 q.2.2.1 q.2.2.2.1 q.2.2.2.2.1 q.2.2.2.2.2) U := h.2.2.2.2.2.2.2.2.2.2.1 q (List.mem_of_getElem? hq)
theorem GG.nc {D : va_G} {k : Nat → Nat} {A : Nat → Prop} {U : State} {H : Heap} (h : GG D k A U H) {q : String × String} (i : Nat) (hq : nsC[i]? = some q) : va_Nw (.castable q.1 q.2) U := h.2.2.2.2.2.2.2.2.2.2.2.1 q (List.mem_of_getElem? hq)
theorem GG.nd {D : va_G} {k : Nat → Nat} {A : Nat → Prop} {U : State} {H : Heap} (h : GG D k A U H) : ∀ w ∈ dcW, va_Nw w U := fun w hw => by
  obtain ⟨y, hy, rfl⟩ := List.mem_map.mp hw
  exact h.2.2.2.2.2.2.2.2.2.2.2.2.1 y hy
theorem GG.sx {D : va_G} {k : Nat → Nat} {A : Nat → Prop} {U : State} {H : Heap} (h : GG D k A U H) (i : Nat) {n : Nat} {t : String} (hq : sxN[i]? = some (n, t)) : vk_R RX5 n t (k (1000 + n)) U := h.2.2.1 (n, t) (List.mem_of_getElem? hq)
/-- a method's start: the heap's size, the world, the machine's own things -/
def Pw (D : va_G) (k : Nat → Nat) (ws : va_W) (sz : Nat) : State → Prop := fun U => U.heap.size = sz ∧ va_P D vwCl ws U.heap ∧ va_D (fun _ => True) ws ∧ GG D k (va_A ws sz) U U.heap
/-- a method's end: the world -/
def Bw (D : va_G) (ws0 : va_W) (sz : Nat) (ws : va_W) : State → Prop := fun t => va_P D vwCl ws t.heap ∧ va_D (va_A ws0 sz) ws
theorem GG_same {D : va_G} {k : Nat → Nat} {A : Nat → Prop} {U : State} {g : JFrame} {mk : MethodId} {a : Array Value} (h : GG D k A U U.heap) : GG D k A (U.calling g mk a) (U.calling g mk a).heap :=
  GG_step (locs := []) (H := U.heap) h va_S.rf rfl (State.WarmedH.refl U) (fun _ h => h)
theorem Pw_blind {D : va_G} {k : Nat → Nat} {ws : va_W} {sz : Nat} {av : List Value} : FrameBlind (va_Pc av (Pw D k ws sz)) := fun a U g mk q => by
  obtain ⟨q0, q1, qP, qD, qG⟩ := q
  exact ⟨q0, q1, qP, qD, GG_same qG⟩
theorem va_free0 {A0 : Nat → Prop} {ws : va_W} {H0 H : Heap} {locs : List Loc} (hD : va_D A0 ws) (hS : va_S A0 H0 H locs) (hA : ∀ q : Nat, H0.size ≤ q → A0 q) : ∀ q : Nat, va_A ws H.size q → A0 q := by
  rintro q (⟨k, e, h⟩ | h)
  · exact hD.2 k _ h
  · exact hA q (Nat.le_trans hS.1 h)
section FW
variable {S : Type} {l : Launch} {y : MethodName} {wsy wsy' : List Cond} {cc : ByteArray} {maxL : Nat} {rm : Room} {mc ms : Nat} {D : va_G} {k : Nat → Nat} {W0 : va_W} {wf : S → va_W} {av : List Value} {sz : Nat}
/-- what a method's body has at hand -/
def Cx (p : Program) (m : MethodId) (c : Code) (cc : ByteArray) (nL : Nat) (s : State) (args : Array Value) (Ts : List Cond) (own : String) (D : va_G) (k : Nat → Nat) (A : Nat → Prop) : Prop :=
  CallFix p m c cc nL s args Ts own ∧ GG D k A s s.heap ∧ ∀ q : Nat, s.heap.size ≤ q → A q
theorem fw_i {ty : FieldType} {post : Int32 → S → Prop} (hy : plainName y.cls = true) (hw : wsy = Cond.code y cc maxL (some ty) :: wsy') (hlen : (lg_sl av).length ≤ maxL)
    (body : ∀ (p : Program) (e : Env) (s : State) (m : MethodId) (args : Array Value) (below : List Frame) (meth : Method) (c : Code) (A : Nat → Prop) (Q : State → Prop) (ls : Array Slot),
      Cx p m c cc maxL s args wsy y.cls D k A → va_P D vwCl W0 s.heap → va_D A W0 → lv_has ls maxL (lv_args 0 av) →
      (∀ (r : Int32) (u : S) (H : Heap) (locs : List Loc) (cells slots pc : Nat) (ls' : Array Slot), decode cc pc = .ok (.ireturn, 1) → narrow ty (.int r) = .int r → va_P D vwCl (wf u) H → va_D A (wf u) → va_S A s.heap H locs → cells ≤ mc → slots ≤ ms → post r u → W p l e rm s m args below meth c H locs cells slots Q (F0 m pc ls' [.int r])) →
      W p l e rm s m args below meth c s.heap [] 0 0 Q (F0 m 0 ls [])) :
    Met l y wsy rm (va_Pc av (Pw D k W0 sz)) (va_Qi post (fun u => Bw D W0 sz (wf u)) (va_A W0 sz)) mc ms (va_A W0 sz) := by
  refine Met.ofW (cc := cc) (maxL := maxL) (ret := some ty) hy hw ?_
  intro p e s m args below meth c s₁ B hml hv
  obtain ⟨rfl, hsz, hP, hD0, hG⟩ := hv
  subst hsz
  have hown9 : s.vm.findClass y.cls = some m.cls := findClass_of_methodNamed B.named
  have hlocks := B.notSynchronized
  have hl := lv_entry av hlen
  rw [lg_entry_eq]
  generalize (lg_sl av ++ List.replicate (maxL - (lg_sl av).length) Slot.unset).toArray = ls at hl ⊢
  refine body p e s m _ below meth c (va_A W0 s.heap.size) _ ls ⟨⟨B.exec, B.bytes, hml, hown9, atoms_spec (ws := wsy) B.pre⟩, hG, fun q h => Or.inr h⟩ hP hD0.self hl ?_
  intro r u H locs cells slots pc ls' hdg hn hP hD hS hc hs hq
  refine W.widen hc hs ?_
  exact W.zret B.exec B.bytes B.returns hn (fun t ht hW => ⟨⟨r, u, rfl, hq, by rw [ht]; exact hP, hD⟩, hS.F ht⟩) hS.2.2 hdg
theorem fw_v {post : S → Prop} (hy : plainName y.cls = true) (hw : wsy = Cond.code y cc maxL none :: wsy') (hlen : (lg_sl av).length ≤ maxL)
    (body : ∀ (p : Program) (e : Env) (s : State) (m : MethodId) (args : Array Value) (below : List Frame) (meth : Method) (c : Code) (A : Nat → Prop) (Q : State → Prop) (ls : Array Slot),
      Cx p m c cc maxL s args wsy y.cls D k A → va_P D vwCl W0 s.heap → va_D A W0 → lv_has ls maxL (lv_args 0 av) → meth.name = y.name →
      (∀ (u : S) (H : Heap) (locs : List Loc) (cells slots pc : Nat) (ls' : Array Slot), decode cc pc = .ok (.return_, 1) → va_P D vwCl (wf u) H → va_D A (wf u) → va_S A s.heap H locs → cells ≤ mc → slots ≤ ms → post u → W p l e rm s m args below meth c H locs cells slots Q (F0 m pc ls' [])) →
      W p l e rm s m args below meth c s.heap [] 0 0 Q (F0 m 0 ls [])) :
    Met l y wsy rm (va_Pc av (Pw D k W0 sz)) (va_Qv post (fun u => Bw D W0 sz (wf u)) (va_A W0 sz)) mc ms (va_A W0 sz) := by
  refine Met.ofW (cc := cc) (maxL := maxL) (ret := none) hy hw ?_
  intro p e s m args below meth c s₁ B hml hv
  obtain ⟨rfl, hsz, hP, hD0, hG⟩ := hv
  subst hsz
  have hown9 : s.vm.findClass y.cls = some m.cls := findClass_of_methodNamed B.named
  have hlocks := B.notSynchronized
  have hl := lv_entry av hlen
  rw [lg_entry_eq]
  generalize (lg_sl av ++ List.replicate (maxL - (lg_sl av).length) Slot.unset).toArray = ls at hl ⊢
  refine body p e s m _ below meth c (va_A W0 s.heap.size) _ ls ⟨⟨B.exec, B.bytes, hml, hown9, atoms_spec (ws := wsy) B.pre⟩, hG, fun q h => Or.inr h⟩ hP hD0.self hl (name_of_methodNamed B.named B.method).1 ?_
  intro u H locs cells slots pc ls' hdg hP hD hS hc hs hq
  refine W.widen hc hs ?_
  exact W.vret B.exec B.bytes B.returns (fun t ht hW => ⟨⟨u, rfl, hq, by rw [ht]; exact hP, hD⟩, hS.F ht⟩) hS.2.2 hdg
end FW
/-! CALLS -/
section FC
variable {p : Program} {l : Launch} {e : Env} {R : Room} {s : State} {m : MethodId} {args : Array Value} {below : List Frame} {meth : Method} {c : Code} {H : Heap} {locs : List Loc} {cells slots : Nat} {Q : State → Prop}
variable {S : Type} {y : MethodName} {wsy Ts : List Cond} {rmy : Room} {bytes cc : ByteArray} {maxL nL mc ms n index pc : Nat} {ret : Option FieldType} {own C9 : String} {b : Nat} {As rest st : List Value} {wc : va_W} {wf wN : S → va_W} {D : va_G} {k : Nat → Nat} {A : Nat → Prop} {ls : Array Slot}
/-- the world behind a call, out of the callee's -/
def Jn (D : va_G) (A : Nat → Prop) (wc : va_W) (H : Heap) (wf wN : S → va_W) : Prop :=
  ∀ (u : S) (H1 : Heap), va_P D vwCl (wf u) H1 → va_D (va_A wc H.size) (wf u) → H.size ≤ H1.size → (∀ q : Nat, q < H.size → ¬ va_A wc H.size q → H1[q]? = H[q]?) → (∀ q : Nat, va_A wc H.size q → A q) → va_P D vwCl (wN u) H1 ∧ va_D A (wN u)
/-- the callee's world is the caller's -/
theorem Jn.same : Jn (S := S) D A wc H wf wf := fun _ _ hP hD _ _ hF => ⟨hP, hD.weaken (fun _ _ _ h => hF _ h)⟩
/-- the callee's world is empty -/
theorem Jn.pure {ws : va_W} {w0 : S → va_W} (hP : va_P D vwCl ws H) (hD : va_D A ws) : Jn (S := S) D A [] H w0 (fun _ => ws) := fun _ _ _ _ _ hk _ =>
  ⟨hP.kept (fun j q hq => hk _ (hP j q hq).lt (by
    rintro (⟨i, e, h⟩ | h)
    · simp at h
    · exact absurd ((hP j q hq).lt) (by omega))), hD⟩
theorem fw_pre (hC : Cx p m c cc nL s args Ts own D k A) (hPc : va_P D vwCl wc H) (hDc : va_D A wc) (hS : va_S A s.heap H locs) {av : List Value} : ∀ U : State, U.heap = H → s.WarmedH U.vm → va_Pc av (Pw D k wc H.size) av.toArray U := fun U hU hW =>
  ⟨rfl, by rw [hU], by rw [hU]; exact hPc, hDc.weaken (fun _ _ _ _ => trivial), GG_step hC.2.1 hS hU hW (va_free0 hDc hS hC.2.2)⟩
theorem fw_ciV {post : Int32 → S → Prop} (hC : Cx p m c cc nL s args Ts own D k A)
    (hM : Met l y wsy rmy (va_Pc (.ref b :: As) (Pw D k wc H.size)) (va_Qi post (fun u => Bw D wc H.size (wf u)) (va_A wc H.size)) mc ms (va_A wc H.size))
    (cw : CallW R s args own C9 index y bytes maxL ret wsy rmy mc ms n) (hr : ∃ cell : Cell, H[b]? = some cell ∧ cell.vm.isStatics = false ∧ s.vm.findClass C9 = some cell.cls)
    (hn : As.length = n) (hsz : ls.size = nL) (hst : st = As.reverse ++ .ref b :: rest) (hW : (rest.map fun v => v.category).sum ≤ 8) (hdg : decode cc pc = .ok (.invokevirtual index, 3)) (hf : cells + mc ≤ R.cells ∧ slots + ms ≤ R.slots)
    (hPc : va_P D vwCl wc H) (hDc : va_D A wc) (hS : va_S A s.heap H locs) (J : Jn D A wc H wf wN)
    (kk : ∀ (r : Int32) (u : S) (H1 : Heap) (locs1 : List Loc), va_P D vwCl (wN u) H1 → va_D A (wN u) → va_S A s.heap H1 locs1 → post r u → W p l e R s m args below meth c H1 locs1 (cells + mc) (slots + ms) Q (F0 m (pc + 3) ls (.int r :: rest))) :
    W p l e R s m args below meth c H locs cells slots Q (F0 m pc ls st) := by
  have hFc := va_free0 hDc hS hC.2.2
  refine va_calli (va_runV (As := As) (rest := rest) hC.1 hM cw ⟨Pw_blind, hr, fw_pre hC hPc hDc hS⟩ rfl hn hsz hst (lv_room hW) hdg hf) hS (fun q _ h => hFc q h) hFc (fun r u t H1 locs1 ht hvm hq hB hz1 hk1 hS1 => ?_)
  obtain ⟨hP1, hD1⟩ := hB
  rw [ht] at hP1
  obtain ⟨hP2, hD2⟩ := J u H1 hP1 hD1 hz1 hk1 hFc
  exact kk r u H1 locs1 hP2 hD2 hS1 hq
theorem fw_clV {post : Int64 → S → Prop} (hC : Cx p m c cc nL s args Ts own D k A)
    (hM : Met l y wsy rmy (va_Pc (.ref b :: As) (Pw D k wc H.size)) (va_Ql post (fun u => Bw D wc H.size (wf u)) (va_A wc H.size)) mc ms (va_A wc H.size))
    (cw : CallW R s args own C9 index y bytes maxL ret wsy rmy mc ms n) (hr : ∃ cell : Cell, H[b]? = some cell ∧ cell.vm.isStatics = false ∧ s.vm.findClass C9 = some cell.cls)
    (hn : As.length = n) (hsz : ls.size = nL) (hst : st = As.reverse ++ .ref b :: rest) (hW : (rest.map fun v => v.category).sum ≤ 8) (hdg : decode cc pc = .ok (.invokevirtual index, 3)) (hf : cells + mc ≤ R.cells ∧ slots + ms ≤ R.slots)
    (hPc : va_P D vwCl wc H) (hDc : va_D A wc) (hS : va_S A s.heap H locs) (J : Jn D A wc H wf wN)
    (kk : ∀ (r : Int64) (u : S) (H1 : Heap) (locs1 : List Loc), va_P D vwCl (wN u) H1 → va_D A (wN u) → va_S A s.heap H1 locs1 → post r u → W p l e R s m args below meth c H1 locs1 (cells + mc) (slots + ms) Q (F0 m (pc + 3) ls (.long r :: rest))) :
    W p l e R s m args below meth c H locs cells slots Q (F0 m pc ls st) := by
  have hFc := va_free0 hDc hS hC.2.2
  refine va_calll (va_runV (As := As) (rest := rest) hC.1 hM cw ⟨Pw_blind, hr, fw_pre hC hPc hDc hS⟩ rfl hn hsz hst (lv_room hW) hdg hf) hS (fun q _ h => hFc q h) hFc (fun r u t H1 locs1 ht hvm hq hB hz1 hk1 hS1 => ?_)
  obtain ⟨hP1, hD1⟩ := hB
  rw [ht] at hP1
  obtain ⟨hP2, hD2⟩ := J u H1 hP1 hD1 hz1 hk1 hFc
  exact kk r u H1 locs1 hP2 hD2 hS1 hq
theorem fw_cvV {post : S → Prop} (hC : Cx p m c cc nL s args Ts own D k A)
    (hM : Met l y wsy rmy (va_Pc (.ref b :: As) (Pw D k wc H.size)) (va_Qv post (fun u => Bw D wc H.size (wf u)) (va_A wc H.size)) mc ms (va_A wc H.size))
    (cw : CallW R s args own C9 index y bytes maxL ret wsy rmy mc ms n) (hr : ∃ cell : Cell, H[b]? = some cell ∧ cell.vm.isStatics = false ∧ s.vm.findClass C9 = some cell.cls)
    (hn : As.length = n) (hsz : ls.size = nL) (hst : st = As.reverse ++ .ref b :: rest) (hW : (rest.map fun v => v.category).sum ≤ 8) (hdg : decode cc pc = .ok (.invokevirtual index, 3)) (hf : cells + mc ≤ R.cells ∧ slots + ms ≤ R.slots)
    (hPc : va_P D vwCl wc H) (hDc : va_D A wc) (hS : va_S A s.heap H locs) (J : Jn D A wc H wf wN)
    (kk : ∀ (u : S) (H1 : Heap) (locs1 : List Loc), va_P D vwCl (wN u) H1 → va_D A (wN u) → va_S A s.heap H1 locs1 → post u → W p l e R s m args below meth c H1 locs1 (cells + mc) (slots + ms) Q (F0 m (pc + 3) ls rest)) :
    W p l e R s m args below meth c H locs cells slots Q (F0 m pc ls st) := by
  have hFc := va_free0 hDc hS hC.2.2
  refine va_callv (va_runV (As := As) (rest := rest) hC.1 hM cw ⟨Pw_blind, hr, fw_pre hC hPc hDc hS⟩ rfl hn hsz hst (lv_room hW) hdg hf) hS (fun q _ h => hFc q h) hFc (fun u t H1 locs1 ht hvm hq hB hz1 hk1 hS1 => ?_)
  obtain ⟨hP1, hD1⟩ := hB
  rw [ht] at hP1
  obtain ⟨hP2, hD2⟩ := J u H1 hP1 hD1 hz1 hk1 hFc
  exact kk u H1 locs1 hP2 hD2 hS1 hq
theorem fw_cvI {post : S → Prop} (hC : Cx p m c cc nL s args Ts own D k A)
    (hM : Met l y wsy rmy (va_Pc (.ref b :: As) (Pw D k wc H.size)) (va_Qv post (fun u => Bw D wc H.size (wf u)) (va_A wc H.size)) mc ms (va_A wc H.size))
    (cw : CallB R s args own index y bytes maxL none wsy rmy mc ms n ∧ y.name = "<init>" ∧ (Cond.instanceMethod y).before args s = true)
    (hn : As.length = n) (hsz : ls.size = nL) (hst : st = As.reverse ++ .ref b :: rest) (hW : (rest.map fun v => v.category).sum ≤ 8) (hdg : decode cc pc = .ok (.invokespecial index, 3)) (hf : cells + mc ≤ R.cells ∧ slots + ms ≤ R.slots)
    (hPc : va_P D vwCl wc H) (hDc : va_D A wc) (hS : va_S A s.heap H locs) (J : Jn D A wc H wf wN)
    (kk : ∀ (u : S) (H1 : Heap) (locs1 : List Loc), va_P D vwCl (wN u) H1 → va_D A (wN u) → va_S A s.heap H1 locs1 → post u → W p l e R s m args below meth c H1 locs1 (cells + mc) (slots + ms) Q (F0 m (pc + 3) ls rest)) :
    W p l e R s m args below meth c H locs cells slots Q (F0 m pc ls st) := by
  have hFc := va_free0 hDc hS hC.2.2
  refine va_callv (va_runI (As := As) (rest := rest) hC.1 hM cw ⟨Pw_blind, fw_pre hC hPc hDc hS⟩ rfl hn hsz hst (lv_room hW) hdg hf) hS (fun q _ h => hFc q h) hFc (fun u t H1 locs1 ht hvm hq hB hz1 hk1 hS1 => ?_)
  obtain ⟨hP1, hD1⟩ := hB
  rw [ht] at hP1
  obtain ⟨hP2, hD2⟩ := J u H1 hP1 hD1 hz1 hk1 hFc
  exact kk u H1 locs1 hP2 hD2 hS1 hq
theorem fw_cvIN {post : S → Prop} (hC : Cx p m c cc nL s args Ts own D k A)
    (hM : Met l y wsy rmy (va_Pc (.ref b :: As) (Pw D k wc H.size)) (va_Qv post (fun u => Bw D wc H.size (wf u)) (va_A wc H.size)) mc ms (va_A wc H.size))
    {host : String} (cw : va_CN R s args own index y host bytes maxL none wsy rmy mc ms n ∧ y.name = "<init>" ∧ (Cond.instanceMethod y).before args s = true)
    (hn : As.length = n) (hsz : ls.size = nL) (hst : st = As.reverse ++ .ref b :: rest) (hW : (rest.map fun v => v.category).sum ≤ 8) (hdg : decode cc pc = .ok (.invokespecial index, 3)) (hf : cells + mc ≤ R.cells ∧ slots + ms ≤ R.slots)
    (hPc : va_P D vwCl wc H) (hDc : va_D A wc) (hS : va_S A s.heap H locs) (J : Jn D A wc H wf wN)
    (kk : ∀ (u : S) (H1 : Heap) (locs1 : List Loc), va_P D vwCl (wN u) H1 → va_D A (wN u) → va_S A s.heap H1 locs1 → post u → W p l e R s m args below meth c H1 locs1 (cells + mc) (slots + ms) Q (F0 m (pc + 3) ls rest)) :
    W p l e R s m args below meth c H locs cells slots Q (F0 m pc ls st) := by
  have hFc := va_free0 hDc hS hC.2.2
  refine va_callv (va_runIN (As := As) (rest := rest) hC.1 hM cw ⟨Pw_blind, fw_pre hC hPc hDc hS⟩ rfl hn hsz hst (lv_room hW) hdg hf) hS (fun q _ h => hFc q h) hFc (fun u t H1 locs1 ht hvm hq hB hz1 hk1 hS1 => ?_)
  obtain ⟨hP1, hD1⟩ := hB
  rw [ht] at hP1
  obtain ⟨hP2, hD2⟩ := J u H1 hP1 hD1 hz1 hk1 hFc
  exact kk u H1 locs1 hP2 hD2 hS1 hq
theorem fw_ciS {post : Int32 → S → Prop} (hC : Cx p m c cc nL s args Ts own D k A)
    (hM : Met l y wsy rmy (va_Pc As (Pw D k wc H.size)) (va_Qi post (fun u => Bw D wc H.size (wf u)) (va_A wc H.size)) mc ms (va_A wc H.size))
    (cw : CallB R s args own index y bytes maxL ret wsy rmy mc ms n ∧ (Cond.static y).before args s = true)
    (hn : As.length = n) (hsz : ls.size = nL) (hst : st = As.reverse ++ rest) (hW : (rest.map fun v => v.category).sum ≤ 8) (hdg : decode cc pc = .ok (.invokestatic index, 3)) (hf : cells + mc ≤ R.cells ∧ slots + ms ≤ R.slots)
    (hPc : va_P D vwCl wc H) (hDc : va_D A wc) (hS : va_S A s.heap H locs) (J : Jn D A wc H wf wN)
    (kk : ∀ (r : Int32) (u : S) (H1 : Heap) (locs1 : List Loc), va_P D vwCl (wN u) H1 → va_D A (wN u) → va_S A s.heap H1 locs1 → post r u → W p l e R s m args below meth c H1 locs1 (cells + mc) (slots + ms) Q (F0 m (pc + 3) ls (.int r :: rest))) :
    W p l e R s m args below meth c H locs cells slots Q (F0 m pc ls st) := by
  have hFc := va_free0 hDc hS hC.2.2
  refine va_calli (va_runS (As := As) (rest := rest) hC.1 hM cw ⟨Pw_blind, fw_pre hC hPc hDc hS⟩ rfl hn hsz hst (lv_room hW) hdg hf) hS (fun q _ h => hFc q h) hFc (fun r u t H1 locs1 ht hvm hq hB hz1 hk1 hS1 => ?_)
  obtain ⟨hP1, hD1⟩ := hB
  rw [ht] at hP1
  obtain ⟨hP2, hD2⟩ := J u H1 hP1 hD1 hz1 hk1 hFc
  exact kk r u H1 locs1 hP2 hD2 hS1 hq
theorem fw_ciSN {post : Int32 → S → Prop} (hC : Cx p m c cc nL s args Ts own D k A)
    (hM : Met l y wsy rmy (va_Pc As (Pw D k wc H.size)) (va_Qi post (fun u => Bw D wc H.size (wf u)) (va_A wc H.size)) mc ms (va_A wc H.size))
    {host : String} (cw : va_CN R s args own index y host bytes maxL ret wsy rmy mc ms n ∧ (Cond.static y).before args s = true ∧ True)
    (hn : As.length = n) (hsz : ls.size = nL) (hst : st = As.reverse ++ rest) (hW : (rest.map fun v => v.category).sum ≤ 8) (hdg : decode cc pc = .ok (.invokestatic index, 3)) (hf : cells + mc ≤ R.cells ∧ slots + ms ≤ R.slots)
    (hPc : va_P D vwCl wc H) (hDc : va_D A wc) (hS : va_S A s.heap H locs) (J : Jn D A wc H wf wN)
    (kk : ∀ (r : Int32) (u : S) (H1 : Heap) (locs1 : List Loc), va_P D vwCl (wN u) H1 → va_D A (wN u) → va_S A s.heap H1 locs1 → post r u → W p l e R s m args below meth c H1 locs1 (cells + mc) (slots + ms) Q (F0 m (pc + 3) ls (.int r :: rest))) :
    W p l e R s m args below meth c H locs cells slots Q (F0 m pc ls st) := by
  have hFc := va_free0 hDc hS hC.2.2
  refine va_calli (va_runSN (As := As) (rest := rest) hC.1 hM cw ⟨Pw_blind, fw_pre hC hPc hDc hS⟩ rfl hn hsz hst (lv_room hW) hdg hf) hS (fun q _ h => hFc q h) hFc (fun r u t H1 locs1 ht hvm hq hB hz1 hk1 hS1 => ?_)
  obtain ⟨hP1, hD1⟩ := hB
  rw [ht] at hP1
  obtain ⟨hP2, hD2⟩ := J u H1 hP1 hD1 hz1 hk1 hFc
  exact kk r u H1 locs1 hP2 hD2 hS1 hq
theorem fw_cvS {post : S → Prop} (hC : Cx p m c cc nL s args Ts own D k A)
    (hM : Met l y wsy rmy (va_Pc As (Pw D k wc H.size)) (va_Qv post (fun u => Bw D wc H.size (wf u)) (va_A wc H.size)) mc ms (va_A wc H.size))
    (cw : CallB R s args own index y bytes maxL ret wsy rmy mc ms n ∧ (Cond.static y).before args s = true)
    (hn : As.length = n) (hsz : ls.size = nL) (hst : st = As.reverse ++ rest) (hW : (rest.map fun v => v.category).sum ≤ 8) (hdg : decode cc pc = .ok (.invokestatic index, 3)) (hf : cells + mc ≤ R.cells ∧ slots + ms ≤ R.slots)
    (hPc : va_P D vwCl wc H) (hDc : va_D A wc) (hS : va_S A s.heap H locs) (J : Jn D A wc H wf wN)
    (kk : ∀ (u : S) (H1 : Heap) (locs1 : List Loc), va_P D vwCl (wN u) H1 → va_D A (wN u) → va_S A s.heap H1 locs1 → post u → W p l e R s m args below meth c H1 locs1 (cells + mc) (slots + ms) Q (F0 m (pc + 3) ls rest)) :
    W p l e R s m args below meth c H locs cells slots Q (F0 m pc ls st) := by
  have hFc := va_free0 hDc hS hC.2.2
  refine va_callv (va_runS (As := As) (rest := rest) hC.1 hM cw ⟨Pw_blind, fw_pre hC hPc hDc hS⟩ rfl hn hsz hst (lv_room hW) hdg hf) hS (fun q _ h => hFc q h) hFc (fun u t H1 locs1 ht hvm hq hB hz1 hk1 hS1 => ?_)
  obtain ⟨hP1, hD1⟩ := hB
  rw [ht] at hP1
  obtain ⟨hP2, hD2⟩ := J u H1 hP1 hD1 hz1 hk1 hFc
  exact kk u H1 locs1 hP2 hD2 hS1 hq
end FC
/-! LOOPS: a body over its own continuation, so many times -/
def lp_1 {α : Type} (F : (α → Prop) → α → Prop) : Nat → α → Prop
  | 0, _ => False
  | n + 1, a => F (lp_1 F n) a
def lp_2 {α β : Type} (F : (α → β → Prop) → α → β → Prop) : Nat → α → β → Prop
  | 0, _, _ => False
  | n + 1, a, b => F (lp_2 F n) a b
def lp_3 {α β γ : Type} (F : (α → β → γ → Prop) → α → β → γ → Prop) : Nat → α → β → γ → Prop
  | 0, _, _, _ => False
  | n + 1, a, b, c => F (lp_3 F n) a b c
def lp_4 {α β γ δ : Type} (F : (α → β → γ → δ → Prop) → α → β → γ → δ → Prop) : Nat → α → β → γ → δ → Prop
  | 0, _, _, _, _ => False
  | n + 1, a, b, c, d => F (lp_4 F n) a b c d
def lp_5 {α β γ δ ε : Type} (F : (α → β → γ → δ → ε → Prop) → α → β → γ → δ → ε → Prop) : Nat → α → β → γ → δ → ε → Prop
  | 0, _, _, _, _, _ => False
  | n + 1, a, b, c, d, x => F (lp_5 F n) a b c d x
def lp_6 {α β γ δ ε ζ : Type} (F : (α → β → γ → δ → ε → ζ → Prop) → α → β → γ → δ → ε → ζ → Prop) : Nat → α → β → γ → δ → ε → ζ → Prop
  | 0, _, _, _, _, _, _ => False
  | n + 1, a, b, c, d, x, z => F (lp_6 F n) a b c d x z
def lp_7 {α β γ δ ε ζ η : Type} (F : (α → β → γ → δ → ε → ζ → η → Prop) → α → β → γ → δ → ε → ζ → η → Prop) : Nat → α → β → γ → δ → ε → ζ → η → Prop
  | 0, _, _, _, _, _, _, _ => False
  | n + 1, a, b, c, d, x, z, w => F (lp_7 F n) a b c d x z w
/-- a truth value that a place of truth values may hold -/
def bz (v : Int32) : Prop := narrow .boolean (.int v) = .int v ∧ fits .boolean (.int v) = true
theorem bz0 : bz 0 := ⟨by decide, by decide⟩
theorem bz1 : bz 1 := ⟨by decide, by decide⟩
theorem P_nil {D : va_G} {H : Heap} : va_P D vwCl [] H := fun j q h => by simp at h
theorem D_nil {A : Nat → Prop} : va_D A [] := ⟨fun i j p q h => by simp at h, fun j q h => by simp at h⟩
theorem P_one {D : va_G} {ws : va_W} {H : Heap} {p : Nat} {q : Nat × va_E} (hP : va_P D vwCl ws H) (h : ws[p]? = some q) : va_P D vwCl [q] H := fun j x hx => by
  match j, hx with
  | 0, hx => cases hx; exact hP p _ h
  | j + 1, hx => simp at hx
theorem D_one {A : Nat → Prop} {ws : va_W} {p : Nat} {q : Nat × va_E} (hD : va_D A ws) (h : ws[p]? = some q) : va_D A [q] := by
  refine ⟨fun i j x y hi hj _ => ?_, fun j x hx => ?_⟩
  · match i, j, hi, hj with
    | 0, 0, _, _ => rfl
    | i + 1, _, hi, _ => simp at hi
    | 0, j + 1, _, hj => simp at hj
  · match j, hx with
    | 0, hx => cases hx; exact hD.2 p _ h
    | j + 1, hx => simp at hx
/-- the callee's world is one cell of the caller's -/
theorem Jn.cell {S : Type} {D : va_G} {A : Nat → Prop} {ws : va_W} {H : Heap} {p a : Nat} {e0 : va_E} {mk : S → va_E} (hP : va_P D vwCl ws H) (hD : va_D A ws) (h : ws[p]? = some (a, e0)) : Jn D A [(a, e0)] H (fun u => [(a, mk u)]) (fun u => ws.set p (a, mk u)) := by
  intro u H1 hP1 hD1 hz hk hF
  have ha : va_at D vwCl (a, mk u) H1 := hP1 0 _ rfl
  refine ⟨fun j q hq => ?_, hD.set h⟩
  by_cases hj : j = p
  · subst hj
    rw [List.getElem?_set_self (List.getElem?_eq_some_iff.mp h).1] at hq
    cases hq
    exact ha
  · rw [List.getElem?_set_ne (Ne.symm hj)] at hq
    refine (hP j q hq).kept (hk _ (hP j q hq).lt ?_)
    rintro (⟨i, e, hi⟩ | hi)
    · match i, hi with
      | 0, hi =>
        cases hi
        exact hj (hD.1 j p _ _ hq h rfl)
      | i + 1, hi => simp at hi
    · exact absurd (hP j q hq).lt (by omega)
/-- the first n places v, the others as they were -/
def fl_row (n : Nat) (v : Int32) (f : Nat → Int32) : Nat → Int32 := fun j => if j < n then v else f j
def sw_out (x : Int32) (n : Nat) : Prop := x.toInt < 0 ∨ (n : Int) ≤ x.toInt
theorem sw_in (x : Int32) (n : Nat) (hn : n < 2 ^ 31) : sw_out x n ∨ ∃ j : Nat, j < n ∧ x = nI j := by
  rcases pk_ix x hn with h | h | h
  · exact Or.inl (Or.inl (by rw [Int32.lt_iff_toInt_lt, Int32.toInt_zero] at h; exact h))
  · exact Or.inl (Or.inr (by rw [Int32.le_iff_toInt_le, nI_toInt hn] at h; exact h))
  · exact Or.inr h
theorem sw_of {x : Int32} {n : Nat} (h : sw_out x (n + 1)) : x.toInt < 0 ∨ (n : Int) < x.toInt := by
  rcases h with h | h
  · exact Or.inl h
  · exact Or.inr (by omega)
section FX
variable {S : Type} {l : Launch} {y : MethodName} {wsy wsy' : List Cond} {cc : ByteArray} {maxL : Nat} {rm : Room} {mc ms : Nat} {D : va_G} {k : Nat → Nat} {W0 : va_W} {wf : S → va_W} {av : List Value} {sz : Nat}
theorem fw_l {post : Int64 → S → Prop} (hy : plainName y.cls = true) (hw : wsy = Cond.code y cc maxL (some .long) :: wsy') (hlen : (lg_sl av).length ≤ maxL)
    (body : ∀ (p : Program) (e : Env) (s : State) (m : MethodId) (args : Array Value) (below : List Frame) (meth : Method) (c : Code) (A : Nat → Prop) (Q : State → Prop) (ls : Array Slot),
      Cx p m c cc maxL s args wsy y.cls D k A → va_P D vwCl W0 s.heap → va_D A W0 → lv_has ls maxL (lv_args 0 av) →
      (∀ (r : Int64) (u : S) (H : Heap) (locs : List Loc) (cells slots pc : Nat) (ls' : Array Slot), decode cc pc = .ok (.lreturn, 1) → va_P D vwCl (wf u) H → va_D A (wf u) → va_S A s.heap H locs → cells ≤ mc → slots ≤ ms → post r u → W p l e rm s m args below meth c H locs cells slots Q (F0 m pc ls' [.long r])) →
      W p l e rm s m args below meth c s.heap [] 0 0 Q (F0 m 0 ls [])) :
    Met l y wsy rm (va_Pc av (Pw D k W0 sz)) (va_Ql post (fun u => Bw D W0 sz (wf u)) (va_A W0 sz)) mc ms (va_A W0 sz) := by
  refine Met.ofW (cc := cc) (maxL := maxL) (ret := some .long) hy hw ?_
  intro p e s m args below meth c s₁ B hml hv
  obtain ⟨rfl, hsz, hP, hD0, hG⟩ := hv
  subst hsz
  have hown9 : s.vm.findClass y.cls = some m.cls := findClass_of_methodNamed B.named
  have hlocks := B.notSynchronized
  have hl := lv_entry av hlen
  rw [lg_entry_eq]
  generalize (lg_sl av ++ List.replicate (maxL - (lg_sl av).length) Slot.unset).toArray = ls at hl ⊢
  refine body p e s m _ below meth c (va_A W0 s.heap.size) _ ls ⟨⟨B.exec, B.bytes, hml, hown9, atoms_spec (ws := wsy) B.pre⟩, hG, fun q h => Or.inr h⟩ hP hD0.self hl ?_
  intro r u H locs cells slots pc ls' hdg hP hD hS hc hs hq
  refine W.widen hc hs ?_
  exact W.lret B.exec B.bytes B.returns (fun t ht hW => ⟨⟨r, u, rfl, hq, by rw [ht]; exact hP, hD⟩, hS.F ht⟩) hS.2.2 hdg
/-- a method that returns a number, or throws -/
theorem fw_xi {ty : FieldType} {post : Int32 → S → Prop} {px : String → S → Prop} (hflag : l.stackTraces = false) (hy : plainName y.cls = true) (hw : wsy = Cond.code y cc maxL (some ty) :: wsy') (hlen : (lg_sl av).length ≤ maxL)
    (body : ∀ (p : Program) (e : Env) (s : State) (m : MethodId) (args : Array Value) (below : List Frame) (meth : Method) (c : Code) (A : Nat → Prop) (Q : State → Prop) (ls : Array Slot),
      Cx p m c cc maxL s args wsy y.cls D k A → va_P D vwCl W0 s.heap → va_D A W0 → lv_has ls maxL (lv_args 0 av) →
      (∀ (r : Int32) (u : S) (H : Heap) (locs : List Loc) (cells slots pc : Nat) (ls' : Array Slot), decode cc pc = .ok (.ireturn, 1) → narrow ty (.int r) = .int r → va_P D vwCl (wf u) H → va_D A (wf u) → va_S A s.heap H locs → cells ≤ mc → slots ≤ ms → post r u → W p l e rm s m args below meth c H locs cells slots Q (F0 m pc ls' [.int r])) →
      (∀ (cls text : String) (names : List String) (ik is ic sa : Nat) (u : S) (H : Heap) (locs : List Loc) (cells slots pc : Nat) (ls' : Array Slot) (rest : List Value),
        Bundle.fit cls = true → (∀ n ∈ names, Bundle.fit n = true) → (Cond.classLink y.cls ik cls).before args s = true → (Cond.initialized cls).before args s = true → vk_R y.cls is text sa s →
        (∀ w ∈ vx_atS y.cls ic cls names, w.before args s = true) → (∀ w ∈ Cond.classLink y.cls ik cls :: Cond.initialized cls :: vx_atS y.cls ic cls names, vx_ot w = true) → ls'.size = maxL →
        decode cc pc = .ok (.new ik, 3) → decode cc (pc + 3) = .ok (.dup, 1) → decode cc (pc + 4) = .ok (.ldc is, 2) → decode cc (pc + 6) = .ok (.invokespecial ic, 3) → decode cc (pc + 9) = .ok (.athrow, 1) →
        names.length + 3 < rm.frames → (rest.map fun v => v.category).sum + (13 * (names.length + 1) + 43) ≤ rm.locals → cells + 1 ≤ rm.cells → slots + 6 ≤ rm.slots →
        va_P D vwCl (wf u) H → va_D A (wf u) → va_S A s.heap H locs → cells + 1 ≤ mc → slots + 6 ≤ ms → px cls u → W p l e rm s m args below meth c H locs cells slots Q (F0 m pc ls' rest)) →
      W p l e rm s m args below meth c s.heap [] 0 0 Q (F0 m 0 ls [])) :
    vx_Met l y wsy rm (va_Pc av (Pw D k W0 sz)) (va_Qi post (fun u => Bw D W0 sz (wf u)) (va_A W0 sz)) (vx_X (fun z : String × S => px z.1 z.2) (fun E z t => E = z.1 ∧ Bw D W0 sz (wf z.2) t) (va_A W0 sz)) mc ms (va_A W0 sz) := by
  refine vx_ofW (cc := cc) (maxL := maxL) (ret := some ty) hy hw ?_
  intro p e s m args below meth c s₁ B hml htab hv
  obtain ⟨rfl, hsz, hP, hD0, hG⟩ := hv
  subst hsz
  have hown9 : s.vm.findClass y.cls = some m.cls := findClass_of_methodNamed B.named
  have hlocks := B.notSynchronized
  have hl := lv_entry av hlen
  rw [lg_entry_eq]
  generalize (lg_sl av ++ List.replicate (maxL - (lg_sl av).length) Slot.unset).toArray = ls at hl ⊢
  refine body p e s m _ below meth c (va_A W0 s.heap.size) _ ls ⟨⟨B.exec, B.bytes, hml, hown9, atoms_spec (ws := wsy) B.pre⟩, hG, fun q h => Or.inr h⟩ hP hD0.self hl ?_ ?_
  · intro r u H locs cells slots pc ls' hdg hn hP hD hS hc hs hq
    refine vx_ret (W.widen hc hs ?_)
    exact W.zret B.exec B.bytes B.returns hn (fun t ht hW => ⟨⟨r, u, rfl, hq, by rw [ht]; exact hP, hD⟩, hS.F ht⟩) hS.2.2 hdg
  · intro cls text names ik is ic sa u H locs cells slots pc ls' rest hcls hnames hk9 hini hstr hat hgood hsize d0 d3 d4 d6 d9 r1 r2 r3 r4 hP hD hS hc hs hpx
    exact vx_throwS B.exec B.bytes hflag hown9 hcls hnames hk9 hini hstr hat hgood hG.2.2.2.1.1 hG.2.2.2.1.2 hS (by rw [hsize, hml]) d0 d3 d4 d6 d9 (fun x hx => (htab x hx).elim) r1 r2 r3 r4 hlocks
      (fun t hvm hz hkq => ⟨(cls, u), hpx, ⟨rfl, hP.kept (fun j q hq => hkq _ (hP j q hq).lt), hD⟩, Nat.le_trans hS.1 hz, fun q h1 h2 => (hkq q (Nat.lt_of_lt_of_le h1 hS.1)).trans (hS.2.1 q h1 h2)⟩) hS.2.2 hc hs
/-- what never throws returns -/
theorem vx_toMet {SX : Type} {Pc : Array Value → State → Prop} {Qc : Array Value → State → Outcome → State → Prop} {px : SX → Prop} {BX : String → SX → State → Prop} {AX free : Nat → Prop} (h : vx_Met l y wsy rm Pc Qc (vx_X px BX AX) mc ms free) (hno : ∀ u, ¬ px u) : Met l y wsy rm Pc Qc mc ms free :=
  MetFree.mono h (fun _ _ h => h) (fun _ _ _ _ _ h => h) (fun a s o t _ hq => by
    rcases hq with hq | ⟨q, rfl, E, ce, L, ⟨u, hu, -⟩, -⟩
    · exact hq
    · exact (hno u hu).elim)
end FX
