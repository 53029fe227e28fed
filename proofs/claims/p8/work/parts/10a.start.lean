theorem tb0_z : ∀ q ∈ ([(910, Cond.instantiable RJ0 4), (748, Cond.instantiable RJ4 4), (1461, Cond.instantiable RJx35411 4), (1050, Cond.instantiable RJx4a65c 3), (184, Cond.instantiable RX0 7), (244, Cond.instantiable RX1 4), (93, Cond.instantiable RX2 11), (163, Cond.instantiable RX3 3), (157, Cond.instantiable RX4 7), (85, Cond.instantiable RX5 4), (509, Cond.instantiable RX6 2), (1156, Cond.instantiable RX7 7), (1044, Cond.instantiable RX8 15), (154, Cond.arrayClass .int), (155, Cond.arrayClass .boolean), (427, Cond.arrayClass .byte), (250, Cond.arrayOver (.array .int)), (1227, Cond.arrayOver (.object "java/lang/Object")), (672, Cond.stringRef RX5 107 "weight is not 0 to 9"), (680, Cond.stringRef RX5 126 "there is a contradiction, or there are 12 commits"), (693, Cond.stringRef RX5 138 "no such commit"), (694, Cond.stringRef RX5 140 "machines is not 0 to 63"), (493, Cond.stringRef RX5 152 "no such machine or field"), (706, Cond.stringRef RX5 154 "number is not 0 to 7"), (715, Cond.stringRef RX5 163 "that does not drift there, or there are 30 lines"), (462, Cond.stringRef RX5 188 "what is not 0 to 6"), (487, Cond.stringRef RX5 208 "machine is not 0 to 5"), (488, Cond.stringRef RX5 216 "what is not 0 to 2"), (506, Cond.stringRef RX5 218 "no such commit or field"), (401, Cond.stringRef RX5 236 "what is not 0 to 8"), (1021, Cond.stringRef RX5 252 "lines is no set of lines that there are"), (533, Cond.stringRef RX5 42 "team is not 0 to 3"), (543, Cond.stringRef RX5 52 "there are 5 fields"), (445, Cond.stringRef RX5 67 "no such field"), (606, Cond.stringRef RX5 70 "team is not 0 to 3, or set not 1 to 255"), (607, Cond.stringRef RX5 75 "there are 30 lines"), (626, Cond.stringRef RX5 84 "team is not 0 to 3, or number not 0 to 7"), (634, Cond.stringRef RX5 86 "team is not 0 to 3, both are the same, or by is not -7 to 7"), (642, Cond.stringRef RX5 88 "team is not 0 to 3, or both are the same"), (650, Cond.stringRef RX5 90 "team is not 0 to 3, number not 0 to 7, or rank not 0 to 9"), (475, Cond.stringRef RX5 95 "no such line"), (94, Cond.methodLinkNest RX5 9 yX2_init "Meetjoin"), (576, Cond.methodLinkNest RX0 69 yX5_contains "Meetjoin"), (318, Cond.methodLinkNest RX3 45 yX5_contains "Meetjoin"), (593, Cond.methodLinkNest RX4 91 yX5_contains "Meetjoin"), (1157, Cond.methodLinkNest RX8 90 yX7_init "MeetjoinModel"), (514, Cond.fieldLinkNest RL 13 "MeetjoinLaw$Out" "n" "J" "MeetjoinLaw"), (515, Cond.fieldLinkNest RL 89 "MeetjoinLaw$Out" "s" "Ljava/lang/String;" "MeetjoinLaw"), (1167, Cond.fieldLinkNest RX8 56 "MeetjoinModel$Line" "isWithdrawn" "Z" "MeetjoinModel"), (1162, Cond.fieldLinkNest RX8 62 "MeetjoinModel$Line" "team" "I" "MeetjoinModel"), (1163, Cond.fieldLinkNest RX8 65 "MeetjoinModel$Line" "field" "I" "MeetjoinModel"), (1166, Cond.fieldLinkNest RX8 68 "MeetjoinModel$Line" "isApproved" "Z" "MeetjoinModel"), (1161, Cond.fieldLinkNest RX8 79 "MeetjoinModel$Line" "kind" "I" "MeetjoinModel"), (1164, Cond.fieldLinkNest RX8 91 "MeetjoinModel$Line" "what" "I" "MeetjoinModel"), (1165, Cond.fieldLinkNest RX8 94 "MeetjoinModel$Line" "by" "I" "MeetjoinModel"), (1065, Cond.fieldLinkNest RJx35411 28 "java/util/ArrayList" "size" "I" "java/util/ArrayList"), (1584, Cond.castable "MeetjoinModel$Line" "java/lang/Object"), (1592, Cond.castable "[I" "java/lang/Object"), (1483, Cond.castable "java/util/ArrayList$Itr" "java/util/Iterator"), (1585, Cond.castable "java/util/ArrayList$Itr" "java/lang/Object"), (362, Cond.castable "java/lang/IllegalArgumentException" "java/lang/IllegalArgumentException"), (536, Cond.castable "java/lang/IllegalStateException" "java/lang/IllegalStateException"), (438, Cond.castable "java/lang/IndexOutOfBoundsException" "java/lang/IndexOutOfBoundsException"), (364, Cond.declares ⟨"java/lang/RuntimeException", "<init>", "(Ljava/lang/String;)V"⟩), (366, Cond.declares ⟨"java/lang/Exception", "<init>", "(Ljava/lang/String;)V"⟩), (368, Cond.declares ⟨"java/lang/Throwable", "<init>", "(Ljava/lang/String;)V"⟩), (387, Cond.laysStatic "java/lang/Throwable" "UNASSIGNED_STACK" "[Ljava/lang/StackTraceElement;"), (64, Cond.initialized "java/lang/Throwable"), (389, Cond.laysStatic "java/lang/Throwable" "SUPPRESSED_SENTINEL" "Ljava/util/List;"), (1506, Cond.stringRef RX8 253 ""), (1508, Cond.stringRef RX8 257 "!"), (757, Cond.laysStatic "java/lang/String" "COMPACT_STRINGS" "Z"), (81, Cond.initialized "java/lang/String"), (1062, Cond.laysStatic "java/util/ArrayList" "DEFAULTCAPACITY_EMPTY_ELEMENTDATA" "[Ljava/lang/Object;"), (62, Cond.initialized "java/util/ArrayList"), (885, Cond.laysStatic "java/lang/Integer" "DigitOnes" "[B"), (71, Cond.initialized "java/lang/Integer"), (887, Cond.laysStatic "java/lang/Integer" "DigitTens" "[B"), (1482, Cond.declares ⟨"java/util/Iterator", "hasNext", "()Z"⟩), (1481, Cond.interfaceMethod "java/util/Iterator" "java/util/Iterator" "hasNext" "()Z"), (1487, Cond.publicMethod yJx35411_hasNext_aae02), (1485, Cond.unhidden RJx35411 "hasNext" "()Z"), (1483, Cond.castable RJx35411 "java/util/Iterator"), (1492, Cond.declares ⟨"java/util/Iterator", "next", "()Ljava/lang/Object;"⟩), (1491, Cond.interfaceMethod "java/util/Iterator" "java/util/Iterator" "next" "()Ljava/lang/Object;"), (1496, Cond.publicMethod yJx35411_next_0502b), (1494, Cond.unhidden RJx35411 "next" "()Ljava/lang/Object;"), (1591, Cond.declares ⟨"java/lang/Object", "getClass", "()Ljava/lang/Class;"⟩), (510, Cond.methodLinkNest RL 110 yX6_init "MeetjoinLaw")] : List (Nat × Cond)), lw_tbl[q.1]? = some q.2 := by decide +kernel
/-! THE START: what holds of the machine, out of the Statement's premises -/
theorem bf1 {a b : Cond} {args : Array Value} {s : State} (h : (Cond.and a b).before args s = true) : a.before args s = true := by
  rw [Cond.before_and, Bool.and_eq_true] at h
  exact h.1
theorem bf2 {a b : Cond} {args : Array Value} {s : State} (h : (Cond.and a b).before args s = true) : b.before args s = true := by
  rw [Cond.before_and, Bool.and_eq_true] at h
  exact h.2
theorem arr_of {ty : FieldType} {args : Array Value} {s : State} (h : (Cond.arrayClass ty).before args s = true) : ∃ c : ClassId, ArrOfT s c ty ∧ s.vm.findClass ("[" ++ ty.toString) = some c := by
  obtain ⟨c, k, comp, h1, h2, h3⟩ := Cond.arrayClass_spec h
  exact ⟨c, fun n z => ⟨fun _ h => (by cases h), k, h2, comp, h3⟩, h1⟩
theorem arr_obj {n : String} {args : Array Value} {s : State} (h : (Cond.arrayOver (.object n)).before args s = true) : ∃ c : ClassId, ArrOfT s c (.object n) ∧ va_RA s c (.object n) := by
  obtain ⟨comp, c, k, h1, -, h3, h4, h5⟩ := Cond.arrayOver_spec h
  exact ⟨c, fun n z => ⟨fun _ h => (by cases h), k, h3, comp, h4⟩, k, comp, h3, h4, h1, h5⟩
theorem arr_arr {t : FieldType} {args : Array Value} {s : State} (h : (Cond.arrayOver (.array t)).before args s = true) : ∃ c : ClassId, ArrOfT s c (.array t) ∧ s.vm.findClass ("[" ++ (FieldType.array t).toString) = some c := by
  have h := h
  simp only [Cond.before, Cond.holds, Cond.value, beq_iff_eq] at h
  cases hc : s.vm.findClass (FieldType.array t).toString with
  | none => simp [hc] at h
  | some comp =>
    simp only [hc, Option.bind_some, Option.bind_eq_some_iff, Option.map_eq_some_iff] at h
    obtain ⟨c, -, k, hk, hb⟩ := h
    cases hkind : k.kind with
    | array component ty =>
      rw [hkind] at hb
      simp at hb
      exact ⟨c, fun n z => ⟨fun _ h => (by cases h), k, hk, component, by rw [hkind, hb.1]⟩, hb.2⟩
    | _ => rw [hkind] at hb; simp at hb
theorem two_S {A : Nat → Prop} {s : State} {a0 v0 a1 v1 k : Nat → Nat} (h0 : vk_S 1 [0] [[]] a0 v0 A s s.heap) (h1 : vk_S 1 [1] [[33]] a1 v1 A s s.heap) (e0 : k 30 = a0 0) (e1 : k 31 = a1 0) (e2 : k 32 = v0 0) (e3 : k 33 = v1 0) : vk_S 2 [0, 1] [[], [33]] (fun i => k (30 + i)) (fun i => k (32 + i)) A s s.heap := by
  have hne : a0 0 ≠ a1 0 := fun e => by
    obtain ⟨-, -, hv0, ht0⟩ := h0.1 0 (by decide)
    obtain ⟨-, -, hv1, ht1⟩ := h1.1 0 (by decide)
    obtain ⟨cf, kf, i, f, cell, q1, -, q3, -, q5, -⟩ := hv0
    obtain ⟨cf', kf', i', f', cell', r1, -, r3, -, r5, -⟩ := hv1
    rw [e] at q3
    cases Option.some.inj (q1.symm.trans r1)
    cases Option.some.inj (q3.symm.trans r3)
    have e9 : v0 0 = v1 0 := by
      have h7 := Option.some.inj (q5.symm.trans r5)
      injection h7
    obtain ⟨c0, g1, -, -, -, g5, -⟩ := ht0
    obtain ⟨c1, g1', -, -, -, g5', -⟩ := ht1
    rw [e9] at g1
    cases Option.some.inj (g1.symm.trans g1')
    have h : Int32.ofNat 0 = Int32.ofNat 1 := g5.symm.trans g5'
    exact absurd h (by decide)
  refine ⟨fun i hi => ?_, fun i j hi hj e => ?_⟩
  · match i, hi with
    | 0, _ => show va_O _ (k 30) _ _ _ ∧ va_OF _ _ _ _ (k 30) _ _ _ ∧ va_OF _ _ _ (.ref (k 32)) (k 30) _ _ _ ∧ va_T _ (k 32) _ _ _ _ _; rw [e0, e2]; exact h0.1 0 (by decide)
    | 1, _ => show va_O _ (k 31) _ _ _ ∧ va_OF _ _ _ _ (k 31) _ _ _ ∧ va_OF _ _ _ (.ref (k 33)) (k 31) _ _ _ ∧ va_T _ (k 33) _ _ _ _ _; rw [e1, e3]; exact h1.1 0 (by decide)
    | i + 2, hi => exact absurd hi (by omega)
  · match i, j, hi, hj, e with
    | 0, 0, _, _, _ => rfl
    | 1, 1, _, _, _ => rfl
    | 0, 1, _, _, e => exact absurd (e0.symm.trans (e.trans e1)) hne
    | 1, 0, _, _, e => exact absurd (e0.symm.trans (e.symm.trans e1)) hne
    | i + 2, _, hi, _, _ => exact absurd hi (by omega)
    | _, j + 2, _, hj, _ => exact absurd hj (by omega)
set_option maxHeartbeats 8000000 in
set_option maxRecDepth 100000 in
theorem gg_start {p : Program} {s : State} {m : MethodId} {meth : Method} {c : Code} {b L : Nat} {xs : Nat → Int32} (C0 : lw_At p s m meth c b L xs) : ∃ (D : va_G) (k : Nat → Nat), GG D k (fun q : Nat => s.heap.size ≤ q) s s.heap ∧ NC s ∧ va_Nw (.methodLinkNest RL 110 yX6_init "MeetjoinLaw") s := by
  obtain ⟨hx, hb, hr, hml, hown, hts0, hX, hbl, hlocks, hgv⟩ := C0
  have hn := bf2 hgv
  have hA : ∀ a : Nat, a < s.heap.size → ¬ (fun q : Nat => s.heap.size ≤ q) a := fun a h h2 => absurd h (Nat.not_lt.mpr h2)
  obtain ⟨c0, i0, hK0⟩ := u_known (C := RJ0) (T := TJ0) (N := 4) (n := 4) hts0 jU_J0 (hts0 (Cond.instantiable RJ0 4) (zz_at tb0_z (i := 0) rfl))
  obtain ⟨c1, i1, hK1⟩ := u_known (C := RJ4) (T := TJ4) (N := 4) (n := 4) hts0 jU_J4 (hts0 (Cond.instantiable RJ4 4) (zz_at tb0_z (i := 1) rfl))
  obtain ⟨c2, i2, hK2⟩ := u_known (C := RJx35411) (T := TJx35411) (N := 4) (n := 4) hts0 jU_Jx35411 (hts0 (Cond.instantiable RJx35411 4) (zz_at tb0_z (i := 2) rfl))
  obtain ⟨c3, i3, hK3⟩ := u_known (C := RJx4a65c) (T := TJx4a65c) (N := 3) (n := 3) hts0 jU_Jx4a65c (hts0 (Cond.instantiable RJx4a65c 3) (zz_at tb0_z (i := 3) rfl))
  obtain ⟨c4, i4, hK4⟩ := u_known (C := RX0) (T := TX0) (N := 7) (n := 7) hts0 jU_X0 (hts0 (Cond.instantiable RX0 7) (zz_at tb0_z (i := 4) rfl))
  obtain ⟨c5, i5, hK5⟩ := u_known (C := RX1) (T := TX1) (N := 4) (n := 4) hts0 jU_X1 (hts0 (Cond.instantiable RX1 4) (zz_at tb0_z (i := 5) rfl))
  obtain ⟨c6, i6, hK6⟩ := u_known (C := RX2) (T := TX2) (N := 11) (n := 11) hts0 jU_X2 (hts0 (Cond.instantiable RX2 11) (zz_at tb0_z (i := 6) rfl))
  obtain ⟨c7, i7, hK7⟩ := u_known (C := RX3) (T := TX3) (N := 3) (n := 3) hts0 jU_X3 (hts0 (Cond.instantiable RX3 3) (zz_at tb0_z (i := 7) rfl))
  obtain ⟨c8, i8, hK8⟩ := u_known (C := RX4) (T := TX4) (N := 7) (n := 7) hts0 jU_X4 (hts0 (Cond.instantiable RX4 7) (zz_at tb0_z (i := 8) rfl))
  obtain ⟨c9, i9, hK9⟩ := u_known (C := RX5) (T := TX5) (N := 4) (n := 4) hts0 jU_X5 (hts0 (Cond.instantiable RX5 4) (zz_at tb0_z (i := 9) rfl))
  obtain ⟨c10, i10, hK10⟩ := u_known (C := RX6) (T := TX6) (N := 2) (n := 2) hts0 jB_X6 (hts0 (Cond.instantiable RX6 2) (zz_at tb0_z (i := 10) rfl))
  obtain ⟨c11, i11, hK11⟩ := u_known (C := RX7) (T := TX7) (N := 7) (n := 7) hts0 jU_X7 (hts0 (Cond.instantiable RX7 7) (zz_at tb0_z (i := 11) rfl))
  obtain ⟨c12, i12, hK12⟩ := u_known (C := RX8) (T := TX8) (N := 15) (n := 15) hts0 jU_X8 (hts0 (Cond.instantiable RX8 15) (zz_at tb0_z (i := 12) rfl))
  obtain ⟨aI, AI, RI⟩ := arr_of (hts0 (Cond.arrayClass .int) (zz_at tb0_z (i := 13) rfl))
  obtain ⟨aZ, AZ, RZ⟩ := arr_of (hts0 (Cond.arrayClass .boolean) (zz_at tb0_z (i := 14) rfl))
  obtain ⟨aB, AB, RB⟩ := arr_of (hts0 (Cond.arrayClass .byte) (zz_at tb0_z (i := 15) rfl))
  obtain ⟨aA, AA, RA9⟩ := arr_arr (hts0 (Cond.arrayOver (.array .int)) (zz_at tb0_z (i := 16) rfl))
  obtain ⟨aO, AO, RO⟩ := arr_obj (hts0 (Cond.arrayOver (.object "java/lang/Object")) (zz_at tb0_z (i := 17) rfl))
  obtain ⟨s107, -, -, -, es107, -⟩ := Cond.exactly_spec (args := #[Value.ref b]) (first := s) (o := none) (s := s) (idx := []) (bf2 (bf2 (bf1 (bf2 (bf1 (bf2 (bf2 (bf2 (bf1 (bf2 hn))))))))))
  obtain ⟨s126, -, -, -, es126, -⟩ := Cond.exactly_spec (args := #[Value.ref b]) (first := s) (o := none) (s := s) (idx := []) (bf1 (bf2 (bf1 (bf1 (bf1 (bf1 (bf1 (bf1 (bf2 (bf2 hn))))))))))
  obtain ⟨s138, -, -, -, es138, -⟩ := Cond.exactly_spec (args := #[Value.ref b]) (first := s) (o := none) (s := s) (idx := []) (bf2 (bf2 (bf2 (bf1 (bf2 (bf2 (bf1 (bf1 (bf2 (bf2 hn))))))))))
  obtain ⟨s140, -, -, -, es140, -⟩ := Cond.exactly_spec (args := #[Value.ref b]) (first := s) (o := none) (s := s) (idx := []) (bf1 (bf1 (bf1 (bf2 (bf1 (bf1 (bf2 (bf1 (bf2 (bf2 hn))))))))))
  obtain ⟨s152, -, -, -, es152, -⟩ := Cond.exactly_spec (args := #[Value.ref b]) (first := s) (o := none) (s := s) (idx := []) (bf2 (bf1 (bf2 (bf2 (bf2 (bf2 (bf2 (bf1 (bf2 (bf1 hn))))))))))
  obtain ⟨s154, -, -, -, es154, -⟩ := Cond.exactly_spec (args := #[Value.ref b]) (first := s) (o := none) (s := s) (idx := []) (bf1 (bf2 (bf1 (bf1 (bf1 (bf2 (bf2 (bf1 (bf2 (bf2 hn))))))))))
  obtain ⟨s163, -, -, -, es163, -⟩ := Cond.exactly_spec (args := #[Value.ref b]) (first := s) (o := none) (s := s) (idx := []) (bf1 (bf2 (bf1 (bf2 (bf2 (bf2 (bf2 (bf1 (bf2 (bf2 hn))))))))))
  obtain ⟨s188, -, -, -, es188, -⟩ := Cond.exactly_spec (args := #[Value.ref b]) (first := s) (o := none) (s := s) (idx := []) (bf1 (bf2 (bf1 (bf2 (bf1 (bf2 (bf1 (bf1 (bf2 (bf1 hn))))))))))
  obtain ⟨s208, -, -, -, es208, -⟩ := Cond.exactly_spec (args := #[Value.ref b]) (first := s) (o := none) (s := s) (idx := []) (bf2 (bf2 (bf2 (bf2 (bf1 (bf1 (bf2 (bf1 (bf2 (bf1 hn))))))))))
  obtain ⟨s216, -, -, -, es216, -⟩ := Cond.exactly_spec (args := #[Value.ref b]) (first := s) (o := none) (s := s) (idx := []) (bf2 (bf2 (bf2 (bf1 (bf1 (bf2 (bf2 (bf1 (bf2 (bf1 hn))))))))))
  obtain ⟨s218, -, -, -, es218, -⟩ := Cond.exactly_spec (args := #[Value.ref b]) (first := s) (o := none) (s := s) (idx := []) (bf1 (bf1 (bf1 (bf2 (bf2 (bf1 (bf1 (bf2 (bf2 (bf1 hn))))))))))
  obtain ⟨s236, -, -, -, es236, -⟩ := Cond.exactly_spec (args := #[Value.ref b]) (first := s) (o := none) (s := s) (idx := []) (bf2 (bf2 (bf1 (bf1 (bf1 (bf1 (bf1 (bf1 (bf2 (bf1 hn))))))))))
  obtain ⟨s252, -, -, -, es252, -⟩ := Cond.exactly_spec (args := #[Value.ref b]) (first := s) (o := none) (s := s) (idx := []) (bf2 (bf2 (bf1 (bf1 (bf2 (bf2 (bf1 (bf2 (bf2 (bf2 hn))))))))))
  obtain ⟨s42, -, -, -, es42, -⟩ := Cond.exactly_spec (args := #[Value.ref b]) (first := s) (o := none) (s := s) (idx := []) (bf1 (bf2 (bf1 (bf1 (bf2 (bf2 (bf1 (bf2 (bf2 (bf1 hn))))))))))
  obtain ⟨s52, -, -, -, es52, -⟩ := Cond.exactly_spec (args := #[Value.ref b]) (first := s) (o := none) (s := s) (idx := []) (bf2 (bf2 (bf2 (bf1 (bf1 (bf1 (bf2 (bf2 (bf2 (bf1 hn))))))))))
  obtain ⟨s67, -, -, -, es67, -⟩ := Cond.exactly_spec (args := #[Value.ref b]) (first := s) (o := none) (s := s) (idx := []) (bf2 (bf1 (bf1 (bf2 (bf2 (bf1 (bf1 (bf1 (bf2 (bf1 hn))))))))))
  obtain ⟨s70, -, -, -, es70, -⟩ := Cond.exactly_spec (args := #[Value.ref b]) (first := s) (o := none) (s := s) (idx := []) (bf2 (bf1 (bf2 (bf2 (bf2 (bf1 (bf2 (bf2 (bf2 (bf1 hn))))))))))
  obtain ⟨s75, -, -, -, es75, -⟩ := Cond.exactly_spec (args := #[Value.ref b]) (first := s) (o := none) (s := s) (idx := []) (bf1 (bf2 (bf2 (bf1 (bf1 (bf1 (bf1 (bf1 (bf1 (bf2 hn))))))))))
  obtain ⟨s84, -, -, -, es84, -⟩ := Cond.exactly_spec (args := #[Value.ref b]) (first := s) (o := none) (s := s) (idx := []) (bf1 (bf1 (bf2 (bf2 (bf2 (bf1 (bf1 (bf1 (bf1 (bf2 hn))))))))))
  obtain ⟨s86, -, -, -, es86, -⟩ := Cond.exactly_spec (args := #[Value.ref b]) (first := s) (o := none) (s := s) (idx := []) (bf2 (bf2 (bf2 (bf1 (bf1 (bf1 (bf2 (bf1 (bf1 (bf2 hn))))))))))
  obtain ⟨s88, -, -, -, es88, -⟩ := Cond.exactly_spec (args := #[Value.ref b]) (first := s) (o := none) (s := s) (idx := []) (bf1 (bf1 (bf2 (bf1 (bf1 (bf1 (bf1 (bf2 (bf1 (bf2 hn))))))))))
  obtain ⟨s90, -, -, -, es90, -⟩ := Cond.exactly_spec (args := #[Value.ref b]) (first := s) (o := none) (s := s) (idx := []) (bf1 (bf1 (bf1 (bf1 (bf2 (bf2 (bf1 (bf2 (bf1 (bf2 hn))))))))))
  obtain ⟨s95, -, -, -, es95, -⟩ := Cond.exactly_spec (args := #[Value.ref b]) (first := s) (o := none) (s := s) (idx := []) (bf2 (bf2 (bf2 (bf2 (bf2 (bf2 (bf2 (bf1 (bf1 (bf2 (bf1 hn)))))))))))
  obtain ⟨aK0, aV0, hS0, eK0⟩ := vk_Sof (args := #[Value.ref b]) (s := s) (N := 1) (tm := fun _ => Term.string RX8 253) (len := [0]) (byt := [[]]) (A := fun q : Nat => s.heap.size ≤ q) (fun i hi => by have h9 : i = 0 := (by omega); subst h9; decide) (fun _ _ => (bf2 (bf1 (bf2 (bf2 (bf2 (bf1 (bf2 (bf2 (bf2 (bf2 hn))))))))))) (fun _ _ => (bf1 (bf2 (bf2 (bf2 (bf2 (bf1 (bf2 (bf2 (bf2 (bf2 hn))))))))))) (fun _ _ => (bf1 (bf2 (bf2 (bf2 (bf2 (bf2 (bf1 (bf2 (bf2 (bf2 (bf2 hn)))))))))))) (fun i hi => by have h9 : i = 0 := (by omega); subst h9; exact (bf2 (bf2 (bf2 (bf2 (bf2 (bf2 (bf1 (bf2 (bf2 (bf2 (bf2 hn)))))))))))) (fun i hi j hj => by have h9 : i = 0 := (by omega); subst h9; exact absurd hj (Nat.not_lt_zero j)) (fun i j hi hj hij => absurd (show i = j by omega) hij) hA
  obtain ⟨aK1, aV1, hS1, eK1⟩ := vk_Sof (args := #[Value.ref b]) (s := s) (N := 1) (tm := fun _ => Term.string RX8 257) (len := [1]) (byt := [[33]]) (A := fun q : Nat => s.heap.size ≤ q) (fun i hi => by have h9 : i = 0 := (by omega); subst h9; decide) (fun _ _ => (bf1 (bf1 (bf1 (bf1 (bf1 (bf2 (bf2 (bf2 (bf2 (bf2 hn))))))))))) (fun _ _ => (bf2 (bf1 (bf1 (bf1 (bf1 (bf2 (bf2 (bf2 (bf2 (bf2 hn))))))))))) (fun _ _ => (bf1 (bf2 (bf1 (bf1 (bf1 (bf2 (bf2 (bf2 (bf2 (bf2 hn))))))))))) (fun i hi => by have h9 : i = 0 := (by omega); subst h9; exact (bf2 (bf2 (bf1 (bf1 (bf1 (bf2 (bf2 (bf2 (bf2 (bf2 hn))))))))))) (fun i hi j hj => by have h9 : i = 0 := (by omega); subst h9; have h8 : j = 0 := Nat.lt_one_iff.mp hj; subst h8; exact (bf1 (bf1 (bf2 (bf1 (bf1 (bf2 (bf2 (bf2 (bf2 (bf2 hn))))))))))) (fun i j hi hj hij => absurd (show i = j by omega) hij) hA
  obtain ⟨e10, ev10, hT10⟩ := va_Tof (args := #[Value.ref b]) (s := s) (N := 0) (f := fun _ => .null) (A := fun q : Nat => s.heap.size ≤ q) (by decide) (bf1 (bf1 (bf2 (bf1 (bf2 (bf1 (bf2 (bf2 (bf1 (bf1 hn)))))))))) (va_eqt (bf1 (bf2 (bf2 (bf1 (bf2 (bf1 (bf2 (bf2 (bf1 (bf1 hn))))))))))) (fun j hj => absurd hj (Nat.not_lt_zero j)) hA
  have hd0 : ∀ j : Nat, j < 100 → (Cond.eq (.elem (.static "java/lang/Integer" "DigitOnes" "[B") (.int (Int32.ofNat j))) (.int (nI (48 + j % 10)))).before #[Value.ref b] s = true := by
    intro j hj
    rcases (show j = 0 ∨ j = 1 ∨ j = 2 ∨ j = 3 ∨ j = 4 ∨ j = 5 ∨ j = 6 ∨ j = 7 ∨ j = 8 ∨ j = 9 ∨ j = 10 ∨ j = 11 ∨ j = 12 ∨ j = 13 ∨ j = 14 ∨ j = 15 ∨ j = 16 ∨ j = 17 ∨ j = 18 ∨ j = 19 ∨ j = 20 ∨ j = 21 ∨ j = 22 ∨ j = 23 ∨ j = 24 ∨ j = 25 ∨ j = 26 ∨ j = 27 ∨ j = 28 ∨ j = 29 ∨ j = 30 ∨ j = 31 ∨ j = 32 ∨ j = 33 ∨ j = 34 ∨ j = 35 ∨ j = 36 ∨ j = 37 ∨ j = 38 ∨ j = 39 ∨ j = 40 ∨ j = 41 ∨ j = 42 ∨ j = 43 ∨ j = 44 ∨ j = 45 ∨ j = 46 ∨ j = 47 ∨ j = 48 ∨ j = 49 ∨ j = 50 ∨ j = 51 ∨ j = 52 ∨ j = 53 ∨ j = 54 ∨ j = 55 ∨ j = 56 ∨ j = 57 ∨ j = 58 ∨ j = 59 ∨ j = 60 ∨ j = 61 ∨ j = 62 ∨ j = 63 ∨ j = 64 ∨ j = 65 ∨ j = 66 ∨ j = 67 ∨ j = 68 ∨ j = 69 ∨ j = 70 ∨ j = 71 ∨ j = 72 ∨ j = 73 ∨ j = 74 ∨ j = 75 ∨ j = 76 ∨ j = 77 ∨ j = 78 ∨ j = 79 ∨ j = 80 ∨ j = 81 ∨ j = 82 ∨ j = 83 ∨ j = 84 ∨ j = 85 ∨ j = 86 ∨ j = 87 ∨ j = 88 ∨ j = 89 ∨ j = 90 ∨ j = 91 ∨ j = 92 ∨ j = 93 ∨ j = 94 ∨ j = 95 ∨ j = 96 ∨ j = 97 ∨ j = 98 ∨ j = 99 by omega) with rfl | rfl | rfl | rfl | rfl | rfl | rfl | rfl | rfl | rfl | rfl | rfl | rfl | rfl | rfl | rfl | rfl | rfl | rfl | rfl | rfl | rfl | rfl | rfl | rfl | rfl | rfl | rfl | rfl | rfl | rfl | rfl | rfl | rfl | rfl | rfl | rfl | rfl | rfl | rfl | rfl | rfl | rfl | rfl | rfl | rfl | rfl | rfl | rfl | rfl | rfl | rfl | rfl | rfl | rfl | rfl | rfl | rfl | rfl | rfl | rfl | rfl | rfl | rfl | rfl | rfl | rfl | rfl | rfl | rfl | rfl | rfl | rfl | rfl | rfl | rfl | rfl | rfl | rfl | rfl | rfl | rfl | rfl | rfl | rfl | rfl | rfl | rfl | rfl | rfl | rfl | rfl | rfl | rfl | rfl | rfl | rfl | rfl | rfl | rfl
    · exact (bf1 (bf1 (bf2 (bf2 (bf1 (bf1 (bf1 (bf1 (bf1 (bf1 hn))))))))))
    · exact (bf2 (bf1 (bf2 (bf2 (bf1 (bf1 (bf1 (bf1 (bf1 (bf1 hn))))))))))
    · exact (bf1 (bf2 (bf2 (bf2 (bf1 (bf1 (bf1 (bf1 (bf1 (bf1 hn))))))))))
    · exact (bf2 (bf2 (bf2 (bf2 (bf1 (bf1 (bf1 (bf1 (bf1 (bf1 hn))))))))))
    · exact (bf1 (bf1 (bf1 (bf1 (bf2 (bf1 (bf1 (bf1 (bf1 (bf1 hn))))))))))
    · exact (bf2 (bf1 (bf1 (bf1 (bf2 (bf1 (bf1 (bf1 (bf1 (bf1 hn))))))))))
    · exact (bf1 (bf2 (bf1 (bf1 (bf2 (bf1 (bf1 (bf1 (bf1 (bf1 hn))))))))))
    · exact (bf2 (bf2 (bf1 (bf1 (bf2 (bf1 (bf1 (bf1 (bf1 (bf1 hn))))))))))
    · exact (bf1 (bf1 (bf2 (bf1 (bf2 (bf1 (bf1 (bf1 (bf1 (bf1 hn))))))))))
    · exact (bf2 (bf1 (bf2 (bf1 (bf2 (bf1 (bf1 (bf1 (bf1 (bf1 hn))))))))))
    · exact (bf1 (bf2 (bf2 (bf1 (bf2 (bf1 (bf1 (bf1 (bf1 (bf1 hn))))))))))
    · exact (bf2 (bf2 (bf2 (bf1 (bf2 (bf1 (bf1 (bf1 (bf1 (bf1 hn))))))))))
    · exact (bf1 (bf1 (bf1 (bf2 (bf2 (bf1 (bf1 (bf1 (bf1 (bf1 hn))))))))))
    · exact (bf2 (bf1 (bf1 (bf2 (bf2 (bf1 (bf1 (bf1 (bf1 (bf1 hn))))))))))
    · exact (bf1 (bf2 (bf1 (bf2 (bf2 (bf1 (bf1 (bf1 (bf1 (bf1 hn))))))))))
    · exact (bf2 (bf2 (bf1 (bf2 (bf2 (bf1 (bf1 (bf1 (bf1 (bf1 hn))))))))))
    · exact (bf1 (bf1 (bf2 (bf2 (bf2 (bf1 (bf1 (bf1 (bf1 (bf1 hn))))))))))
    · exact (bf2 (bf1 (bf2 (bf2 (bf2 (bf1 (bf1 (bf1 (bf1 (bf1 hn))))))))))
    · exact (bf1 (bf2 (bf2 (bf2 (bf2 (bf1 (bf1 (bf1 (bf1 (bf1 hn))))))))))
    · exact (bf2 (bf2 (bf2 (bf2 (bf2 (bf1 (bf1 (bf1 (bf1 (bf1 hn))))))))))
    · exact (bf1 (bf1 (bf1 (bf1 (bf1 (bf2 (bf1 (bf1 (bf1 (bf1 hn))))))))))
    · exact (bf2 (bf1 (bf1 (bf1 (bf1 (bf2 (bf1 (bf1 (bf1 (bf1 hn))))))))))
    · exact (bf1 (bf2 (bf1 (bf1 (bf1 (bf2 (bf1 (bf1 (bf1 (bf1 hn))))))))))
    · exact (bf2 (bf2 (bf1 (bf1 (bf1 (bf2 (bf1 (bf1 (bf1 (bf1 hn))))))))))
    · exact (bf1 (bf1 (bf2 (bf1 (bf1 (bf2 (bf1 (bf1 (bf1 (bf1 hn))))))))))
    · exact (bf2 (bf1 (bf2 (bf1 (bf1 (bf2 (bf1 (bf1 (bf1 (bf1 hn))))))))))
    · exact (bf1 (bf2 (bf2 (bf1 (bf1 (bf2 (bf1 (bf1 (bf1 (bf1 hn))))))))))
    · exact (bf2 (bf2 (bf2 (bf1 (bf1 (bf2 (bf1 (bf1 (bf1 (bf1 hn))))))))))
    · exact (bf1 (bf1 (bf1 (bf2 (bf1 (bf2 (bf1 (bf1 (bf1 (bf1 hn))))))))))
    · exact (bf2 (bf1 (bf1 (bf2 (bf1 (bf2 (bf1 (bf1 (bf1 (bf1 hn))))))))))
    · exact (bf1 (bf2 (bf1 (bf2 (bf1 (bf2 (bf1 (bf1 (bf1 (bf1 hn))))))))))
    · exact (bf2 (bf2 (bf1 (bf2 (bf1 (bf2 (bf1 (bf1 (bf1 (bf1 hn))))))))))
    · exact (bf1 (bf1 (bf2 (bf2 (bf1 (bf2 (bf1 (bf1 (bf1 (bf1 hn))))))))))
    · exact (bf2 (bf1 (bf2 (bf2 (bf1 (bf2 (bf1 (bf1 (bf1 (bf1 hn))))))))))
    · exact (bf1 (bf2 (bf2 (bf2 (bf1 (bf2 (bf1 (bf1 (bf1 (bf1 hn))))))))))
    · exact (bf2 (bf2 (bf2 (bf2 (bf1 (bf2 (bf1 (bf1 (bf1 (bf1 hn))))))))))
    · exact (bf1 (bf1 (bf1 (bf1 (bf2 (bf2 (bf1 (bf1 (bf1 (bf1 hn))))))))))
    · exact (bf2 (bf1 (bf1 (bf1 (bf2 (bf2 (bf1 (bf1 (bf1 (bf1 hn))))))))))
    · exact (bf1 (bf2 (bf1 (bf1 (bf2 (bf2 (bf1 (bf1 (bf1 (bf1 hn))))))))))
    · exact (bf2 (bf2 (bf1 (bf1 (bf2 (bf2 (bf1 (bf1 (bf1 (bf1 hn))))))))))
    · exact (bf1 (bf1 (bf2 (bf1 (bf2 (bf2 (bf1 (bf1 (bf1 (bf1 hn))))))))))
    · exact (bf2 (bf1 (bf2 (bf1 (bf2 (bf2 (bf1 (bf1 (bf1 (bf1 hn))))))))))
    · exact (bf1 (bf2 (bf2 (bf1 (bf2 (bf2 (bf1 (bf1 (bf1 (bf1 hn))))))))))
    · exact (bf2 (bf2 (bf2 (bf1 (bf2 (bf2 (bf1 (bf1 (bf1 (bf1 hn))))))))))
    · exact (bf1 (bf1 (bf1 (bf2 (bf2 (bf2 (bf1 (bf1 (bf1 (bf1 hn))))))))))
    · exact (bf2 (bf1 (bf1 (bf2 (bf2 (bf2 (bf1 (bf1 (bf1 (bf1 hn))))))))))
    · exact (bf1 (bf2 (bf1 (bf2 (bf2 (bf2 (bf1 (bf1 (bf1 (bf1 hn))))))))))
    · exact (bf2 (bf2 (bf1 (bf2 (bf2 (bf2 (bf1 (bf1 (bf1 (bf1 hn))))))))))
    · exact (bf1 (bf1 (bf2 (bf2 (bf2 (bf2 (bf1 (bf1 (bf1 (bf1 hn))))))))))
    · exact (bf2 (bf1 (bf2 (bf2 (bf2 (bf2 (bf1 (bf1 (bf1 (bf1 hn))))))))))
    · exact (bf1 (bf2 (bf2 (bf2 (bf2 (bf2 (bf1 (bf1 (bf1 (bf1 hn))))))))))
    · exact (bf1 (bf2 (bf2 (bf2 (bf2 (bf2 (bf2 (bf1 (bf1 (bf1 (bf1 hn)))))))))))
    · exact (bf2 (bf2 (bf2 (bf2 (bf2 (bf2 (bf2 (bf1 (bf1 (bf1 (bf1 hn)))))))))))
    · exact (bf1 (bf1 (bf1 (bf1 (bf1 (bf1 (bf2 (bf1 (bf1 (bf1 hn))))))))))
    · exact (bf2 (bf1 (bf1 (bf1 (bf1 (bf1 (bf2 (bf1 (bf1 (bf1 hn))))))))))
    · exact (bf1 (bf2 (bf1 (bf1 (bf1 (bf1 (bf2 (bf1 (bf1 (bf1 hn))))))))))
    · exact (bf2 (bf2 (bf1 (bf1 (bf1 (bf1 (bf2 (bf1 (bf1 (bf1 hn))))))))))
    · exact (bf1 (bf1 (bf2 (bf1 (bf1 (bf1 (bf2 (bf1 (bf1 (bf1 hn))))))))))
    · exact (bf2 (bf1 (bf2 (bf1 (bf1 (bf1 (bf2 (bf1 (bf1 (bf1 hn))))))))))
    · exact (bf1 (bf2 (bf2 (bf1 (bf1 (bf1 (bf2 (bf1 (bf1 (bf1 hn))))))))))
    · exact (bf2 (bf2 (bf2 (bf1 (bf1 (bf1 (bf2 (bf1 (bf1 (bf1 hn))))))))))
    · exact (bf1 (bf1 (bf1 (bf2 (bf1 (bf1 (bf2 (bf1 (bf1 (bf1 hn))))))))))
    · exact (bf2 (bf1 (bf1 (bf2 (bf1 (bf1 (bf2 (bf1 (bf1 (bf1 hn))))))))))
    · exact (bf1 (bf2 (bf1 (bf2 (bf1 (bf1 (bf2 (bf1 (bf1 (bf1 hn))))))))))
    · exact (bf2 (bf2 (bf1 (bf2 (bf1 (bf1 (bf2 (bf1 (bf1 (bf1 hn))))))))))
    · exact (bf1 (bf1 (bf2 (bf2 (bf1 (bf1 (bf2 (bf1 (bf1 (bf1 hn))))))))))
    · exact (bf2 (bf1 (bf2 (bf2 (bf1 (bf1 (bf2 (bf1 (bf1 (bf1 hn))))))))))
    · exact (bf1 (bf2 (bf2 (bf2 (bf1 (bf1 (bf2 (bf1 (bf1 (bf1 hn))))))))))
    · exact (bf2 (bf2 (bf2 (bf2 (bf1 (bf1 (bf2 (bf1 (bf1 (bf1 hn))))))))))
    · exact (bf1 (bf1 (bf1 (bf1 (bf2 (bf1 (bf2 (bf1 (bf1 (bf1 hn))))))))))
    · exact (bf2 (bf1 (bf1 (bf1 (bf2 (bf1 (bf2 (bf1 (bf1 (bf1 hn))))))))))
    · exact (bf1 (bf2 (bf1 (bf1 (bf2 (bf1 (bf2 (bf1 (bf1 (bf1 hn))))))))))
    · exact (bf2 (bf2 (bf1 (bf1 (bf2 (bf1 (bf2 (bf1 (bf1 (bf1 hn))))))))))
    · exact (bf1 (bf1 (bf2 (bf1 (bf2 (bf1 (bf2 (bf1 (bf1 (bf1 hn))))))))))
    · exact (bf2 (bf1 (bf2 (bf1 (bf2 (bf1 (bf2 (bf1 (bf1 (bf1 hn))))))))))
    · exact (bf1 (bf2 (bf2 (bf1 (bf2 (bf1 (bf2 (bf1 (bf1 (bf1 hn))))))))))
    · exact (bf2 (bf2 (bf2 (bf1 (bf2 (bf1 (bf2 (bf1 (bf1 (bf1 hn))))))))))
    · exact (bf1 (bf1 (bf1 (bf2 (bf2 (bf1 (bf2 (bf1 (bf1 (bf1 hn))))))))))
    · exact (bf2 (bf1 (bf1 (bf2 (bf2 (bf1 (bf2 (bf1 (bf1 (bf1 hn))))))))))
    · exact (bf1 (bf2 (bf1 (bf2 (bf2 (bf1 (bf2 (bf1 (bf1 (bf1 hn))))))))))
    · exact (bf2 (bf2 (bf1 (bf2 (bf2 (bf1 (bf2 (bf1 (bf1 (bf1 hn))))))))))
    · exact (bf1 (bf1 (bf2 (bf2 (bf2 (bf1 (bf2 (bf1 (bf1 (bf1 hn))))))))))
    · exact (bf2 (bf1 (bf2 (bf2 (bf2 (bf1 (bf2 (bf1 (bf1 (bf1 hn))))))))))
    · exact (bf1 (bf2 (bf2 (bf2 (bf2 (bf1 (bf2 (bf1 (bf1 (bf1 hn))))))))))
    · exact (bf1 (bf2 (bf2 (bf2 (bf2 (bf2 (bf1 (bf2 (bf1 (bf1 (bf1 hn)))))))))))
    · exact (bf2 (bf2 (bf2 (bf2 (bf2 (bf2 (bf1 (bf2 (bf1 (bf1 (bf1 hn)))))))))))
    · exact (bf1 (bf1 (bf1 (bf1 (bf1 (bf2 (bf2 (bf1 (bf1 (bf1 hn))))))))))
    · exact (bf2 (bf1 (bf1 (bf1 (bf1 (bf2 (bf2 (bf1 (bf1 (bf1 hn))))))))))
    · exact (bf1 (bf2 (bf1 (bf1 (bf1 (bf2 (bf2 (bf1 (bf1 (bf1 hn))))))))))
    · exact (bf2 (bf2 (bf1 (bf1 (bf1 (bf2 (bf2 (bf1 (bf1 (bf1 hn))))))))))
    · exact (bf1 (bf1 (bf2 (bf1 (bf1 (bf2 (bf2 (bf1 (bf1 (bf1 hn))))))))))
    · exact (bf2 (bf1 (bf2 (bf1 (bf1 (bf2 (bf2 (bf1 (bf1 (bf1 hn))))))))))
    · exact (bf1 (bf2 (bf2 (bf1 (bf1 (bf2 (bf2 (bf1 (bf1 (bf1 hn))))))))))
    · exact (bf2 (bf2 (bf2 (bf1 (bf1 (bf2 (bf2 (bf1 (bf1 (bf1 hn))))))))))
    · exact (bf1 (bf1 (bf1 (bf2 (bf1 (bf2 (bf2 (bf1 (bf1 (bf1 hn))))))))))
    · exact (bf2 (bf1 (bf1 (bf2 (bf1 (bf2 (bf2 (bf1 (bf1 (bf1 hn))))))))))
    · exact (bf1 (bf2 (bf1 (bf2 (bf1 (bf2 (bf2 (bf1 (bf1 (bf1 hn))))))))))
    · exact (bf2 (bf2 (bf1 (bf2 (bf1 (bf2 (bf2 (bf1 (bf1 (bf1 hn))))))))))
    · exact (bf1 (bf1 (bf2 (bf2 (bf1 (bf2 (bf2 (bf1 (bf1 (bf1 hn))))))))))
    · exact (bf2 (bf1 (bf2 (bf2 (bf1 (bf2 (bf2 (bf1 (bf1 (bf1 hn))))))))))
  obtain ⟨d11, ed11, hT11⟩ := va_Tof (args := #[Value.ref b]) (s := s) (N := 100) (f := fun j => .int (nI (48 + j % 10))) (A := fun q : Nat => s.heap.size ≤ q) (by decide) (bf1 (bf2 (bf1 (bf2 (bf1 (bf1 (bf1 (bf1 (bf1 (bf1 hn)))))))))) (va_eqt (bf2 (bf2 (bf1 (bf2 (bf1 (bf1 (bf1 (bf1 (bf1 (bf1 hn))))))))))) (fun j hj => va_eqt (hd0 j hj)) hA
  have hd1 : ∀ j : Nat, j < 100 → (Cond.eq (.elem (.static "java/lang/Integer" "DigitTens" "[B") (.int (Int32.ofNat j))) (.int (nI (48 + j / 10)))).before #[Value.ref b] s = true := by
    intro j hj
    rcases (show j = 0 ∨ j = 1 ∨ j = 2 ∨ j = 3 ∨ j = 4 ∨ j = 5 ∨ j = 6 ∨ j = 7 ∨ j = 8 ∨ j = 9 ∨ j = 10 ∨ j = 11 ∨ j = 12 ∨ j = 13 ∨ j = 14 ∨ j = 15 ∨ j = 16 ∨ j = 17 ∨ j = 18 ∨ j = 19 ∨ j = 20 ∨ j = 21 ∨ j = 22 ∨ j = 23 ∨ j = 24 ∨ j = 25 ∨ j = 26 ∨ j = 27 ∨ j = 28 ∨ j = 29 ∨ j = 30 ∨ j = 31 ∨ j = 32 ∨ j = 33 ∨ j = 34 ∨ j = 35 ∨ j = 36 ∨ j = 37 ∨ j = 38 ∨ j = 39 ∨ j = 40 ∨ j = 41 ∨ j = 42 ∨ j = 43 ∨ j = 44 ∨ j = 45 ∨ j = 46 ∨ j = 47 ∨ j = 48 ∨ j = 49 ∨ j = 50 ∨ j = 51 ∨ j = 52 ∨ j = 53 ∨ j = 54 ∨ j = 55 ∨ j = 56 ∨ j = 57 ∨ j = 58 ∨ j = 59 ∨ j = 60 ∨ j = 61 ∨ j = 62 ∨ j = 63 ∨ j = 64 ∨ j = 65 ∨ j = 66 ∨ j = 67 ∨ j = 68 ∨ j = 69 ∨ j = 70 ∨ j = 71 ∨ j = 72 ∨ j = 73 ∨ j = 74 ∨ j = 75 ∨ j = 76 ∨ j = 77 ∨ j = 78 ∨ j = 79 ∨ j = 80 ∨ j = 81 ∨ j = 82 ∨ j = 83 ∨ j = 84 ∨ j = 85 ∨ j = 86 ∨ j = 87 ∨ j = 88 ∨ j = 89 ∨ j = 90 ∨ j = 91 ∨ j = 92 ∨ j = 93 ∨ j = 94 ∨ j = 95 ∨ j = 96 ∨ j = 97 ∨ j = 98 ∨ j = 99 by omega) with rfl | rfl | rfl | rfl | rfl | rfl | rfl | rfl | rfl | rfl | rfl | rfl | rfl | rfl | rfl | rfl | rfl | rfl | rfl | rfl | rfl | rfl | rfl | rfl | rfl | rfl | rfl | rfl | rfl | rfl | rfl | rfl | rfl | rfl | rfl | rfl | rfl | rfl | rfl | rfl | rfl | rfl | rfl | rfl | rfl | rfl | rfl | rfl | rfl | rfl | rfl | rfl | rfl | rfl | rfl | rfl | rfl | rfl | rfl | rfl | rfl | rfl | rfl | rfl | rfl | rfl | rfl | rfl | rfl | rfl | rfl | rfl | rfl | rfl | rfl | rfl | rfl | rfl | rfl | rfl | rfl | rfl | rfl | rfl | rfl | rfl | rfl | rfl | rfl | rfl | rfl | rfl | rfl | rfl | rfl | rfl | rfl | rfl | rfl | rfl
    · exact (bf2 (bf1 (bf1 (bf1 (bf2 (bf2 (bf2 (bf1 (bf1 (bf1 hn))))))))))
    · exact (bf1 (bf2 (bf1 (bf1 (bf2 (bf2 (bf2 (bf1 (bf1 (bf1 hn))))))))))
    · exact (bf2 (bf2 (bf1 (bf1 (bf2 (bf2 (bf2 (bf1 (bf1 (bf1 hn))))))))))
    · exact (bf1 (bf1 (bf2 (bf1 (bf2 (bf2 (bf2 (bf1 (bf1 (bf1 hn))))))))))
    · exact (bf2 (bf1 (bf2 (bf1 (bf2 (bf2 (bf2 (bf1 (bf1 (bf1 hn))))))))))
    · exact (bf1 (bf2 (bf2 (bf1 (bf2 (bf2 (bf2 (bf1 (bf1 (bf1 hn))))))))))
    · exact (bf2 (bf2 (bf2 (bf1 (bf2 (bf2 (bf2 (bf1 (bf1 (bf1 hn))))))))))
    · exact (bf1 (bf1 (bf1 (bf2 (bf2 (bf2 (bf2 (bf1 (bf1 (bf1 hn))))))))))
    · exact (bf2 (bf1 (bf1 (bf2 (bf2 (bf2 (bf2 (bf1 (bf1 (bf1 hn))))))))))
    · exact (bf1 (bf2 (bf1 (bf2 (bf2 (bf2 (bf2 (bf1 (bf1 (bf1 hn))))))))))
    · exact (bf2 (bf2 (bf1 (bf2 (bf2 (bf2 (bf2 (bf1 (bf1 (bf1 hn))))))))))
    · exact (bf1 (bf1 (bf2 (bf2 (bf2 (bf2 (bf2 (bf1 (bf1 (bf1 hn))))))))))
    · exact (bf2 (bf1 (bf2 (bf2 (bf2 (bf2 (bf2 (bf1 (bf1 (bf1 hn))))))))))
    · exact (bf1 (bf2 (bf2 (bf2 (bf2 (bf2 (bf2 (bf1 (bf1 (bf1 hn))))))))))
    · exact (bf1 (bf2 (bf2 (bf2 (bf2 (bf2 (bf2 (bf2 (bf1 (bf1 (bf1 hn)))))))))))
    · exact (bf2 (bf2 (bf2 (bf2 (bf2 (bf2 (bf2 (bf2 (bf1 (bf1 (bf1 hn)))))))))))
    · exact (bf1 (bf1 (bf1 (bf1 (bf1 (bf1 (bf1 (bf2 (bf1 (bf1 hn))))))))))
    · exact (bf2 (bf1 (bf1 (bf1 (bf1 (bf1 (bf1 (bf2 (bf1 (bf1 hn))))))))))
    · exact (bf1 (bf2 (bf1 (bf1 (bf1 (bf1 (bf1 (bf2 (bf1 (bf1 hn))))))))))
    · exact (bf2 (bf2 (bf1 (bf1 (bf1 (bf1 (bf1 (bf2 (bf1 (bf1 hn))))))))))
    · exact (bf1 (bf1 (bf2 (bf1 (bf1 (bf1 (bf1 (bf2 (bf1 (bf1 hn))))))))))
    · exact (bf2 (bf1 (bf2 (bf1 (bf1 (bf1 (bf1 (bf2 (bf1 (bf1 hn))))))))))
    · exact (bf1 (bf2 (bf2 (bf1 (bf1 (bf1 (bf1 (bf2 (bf1 (bf1 hn))))))))))
    · exact (bf2 (bf2 (bf2 (bf1 (bf1 (bf1 (bf1 (bf2 (bf1 (bf1 hn))))))))))
    · exact (bf1 (bf1 (bf1 (bf2 (bf1 (bf1 (bf1 (bf2 (bf1 (bf1 hn))))))))))
    · exact (bf2 (bf1 (bf1 (bf2 (bf1 (bf1 (bf1 (bf2 (bf1 (bf1 hn))))))))))
    · exact (bf1 (bf2 (bf1 (bf2 (bf1 (bf1 (bf1 (bf2 (bf1 (bf1 hn))))))))))
    · exact (bf2 (bf2 (bf1 (bf2 (bf1 (bf1 (bf1 (bf2 (bf1 (bf1 hn))))))))))
    · exact (bf1 (bf1 (bf2 (bf2 (bf1 (bf1 (bf1 (bf2 (bf1 (bf1 hn))))))))))
    · exact (bf2 (bf1 (bf2 (bf2 (bf1 (bf1 (bf1 (bf2 (bf1 (bf1 hn))))))))))
    · exact (bf1 (bf2 (bf2 (bf2 (bf1 (bf1 (bf1 (bf2 (bf1 (bf1 hn))))))))))
    · exact (bf2 (bf2 (bf2 (bf2 (bf1 (bf1 (bf1 (bf2 (bf1 (bf1 hn))))))))))
    · exact (bf1 (bf1 (bf1 (bf1 (bf2 (bf1 (bf1 (bf2 (bf1 (bf1 hn))))))))))
    · exact (bf2 (bf1 (bf1 (bf1 (bf2 (bf1 (bf1 (bf2 (bf1 (bf1 hn))))))))))
    · exact (bf1 (bf2 (bf1 (bf1 (bf2 (bf1 (bf1 (bf2 (bf1 (bf1 hn))))))))))
    · exact (bf2 (bf2 (bf1 (bf1 (bf2 (bf1 (bf1 (bf2 (bf1 (bf1 hn))))))))))
    · exact (bf1 (bf1 (bf2 (bf1 (bf2 (bf1 (bf1 (bf2 (bf1 (bf1 hn))))))))))
    · exact (bf2 (bf1 (bf2 (bf1 (bf2 (bf1 (bf1 (bf2 (bf1 (bf1 hn))))))))))
    · exact (bf1 (bf2 (bf2 (bf1 (bf2 (bf1 (bf1 (bf2 (bf1 (bf1 hn))))))))))
    · exact (bf2 (bf2 (bf2 (bf1 (bf2 (bf1 (bf1 (bf2 (bf1 (bf1 hn))))))))))
    · exact (bf1 (bf1 (bf1 (bf2 (bf2 (bf1 (bf1 (bf2 (bf1 (bf1 hn))))))))))
    · exact (bf2 (bf1 (bf1 (bf2 (bf2 (bf1 (bf1 (bf2 (bf1 (bf1 hn))))))))))
    · exact (bf1 (bf2 (bf1 (bf2 (bf2 (bf1 (bf1 (bf2 (bf1 (bf1 hn))))))))))
    · exact (bf2 (bf2 (bf1 (bf2 (bf2 (bf1 (bf1 (bf2 (bf1 (bf1 hn))))))))))
    · exact (bf1 (bf1 (bf2 (bf2 (bf2 (bf1 (bf1 (bf2 (bf1 (bf1 hn))))))))))
    · exact (bf2 (bf1 (bf2 (bf2 (bf2 (bf1 (bf1 (bf2 (bf1 (bf1 hn))))))))))
    · exact (bf1 (bf2 (bf2 (bf2 (bf2 (bf1 (bf1 (bf2 (bf1 (bf1 hn))))))))))
    · exact (bf2 (bf2 (bf2 (bf2 (bf2 (bf1 (bf1 (bf2 (bf1 (bf1 hn))))))))))
    · exact (bf1 (bf1 (bf1 (bf1 (bf1 (bf2 (bf1 (bf2 (bf1 (bf1 hn))))))))))
    · exact (bf2 (bf1 (bf1 (bf1 (bf1 (bf2 (bf1 (bf2 (bf1 (bf1 hn))))))))))
    · exact (bf1 (bf2 (bf1 (bf1 (bf1 (bf2 (bf1 (bf2 (bf1 (bf1 hn))))))))))
    · exact (bf2 (bf2 (bf1 (bf1 (bf1 (bf2 (bf1 (bf2 (bf1 (bf1 hn))))))))))
    · exact (bf1 (bf1 (bf2 (bf1 (bf1 (bf2 (bf1 (bf2 (bf1 (bf1 hn))))))))))
    · exact (bf2 (bf1 (bf2 (bf1 (bf1 (bf2 (bf1 (bf2 (bf1 (bf1 hn))))))))))
    · exact (bf1 (bf2 (bf2 (bf1 (bf1 (bf2 (bf1 (bf2 (bf1 (bf1 hn))))))))))
    · exact (bf2 (bf2 (bf2 (bf1 (bf1 (bf2 (bf1 (bf2 (bf1 (bf1 hn))))))))))
    · exact (bf1 (bf1 (bf1 (bf2 (bf1 (bf2 (bf1 (bf2 (bf1 (bf1 hn))))))))))
    · exact (bf2 (bf1 (bf1 (bf2 (bf1 (bf2 (bf1 (bf2 (bf1 (bf1 hn))))))))))
    · exact (bf1 (bf2 (bf1 (bf2 (bf1 (bf2 (bf1 (bf2 (bf1 (bf1 hn))))))))))
    · exact (bf2 (bf2 (bf1 (bf2 (bf1 (bf2 (bf1 (bf2 (bf1 (bf1 hn))))))))))
    · exact (bf1 (bf1 (bf2 (bf2 (bf1 (bf2 (bf1 (bf2 (bf1 (bf1 hn))))))))))
    · exact (bf2 (bf1 (bf2 (bf2 (bf1 (bf2 (bf1 (bf2 (bf1 (bf1 hn))))))))))
    · exact (bf1 (bf2 (bf2 (bf2 (bf1 (bf2 (bf1 (bf2 (bf1 (bf1 hn))))))))))
    · exact (bf2 (bf2 (bf2 (bf2 (bf1 (bf2 (bf1 (bf2 (bf1 (bf1 hn))))))))))
    · exact (bf1 (bf1 (bf1 (bf1 (bf2 (bf2 (bf1 (bf2 (bf1 (bf1 hn))))))))))
    · exact (bf2 (bf1 (bf1 (bf1 (bf2 (bf2 (bf1 (bf2 (bf1 (bf1 hn))))))))))
    · exact (bf1 (bf2 (bf1 (bf1 (bf2 (bf2 (bf1 (bf2 (bf1 (bf1 hn))))))))))
    · exact (bf2 (bf2 (bf1 (bf1 (bf2 (bf2 (bf1 (bf2 (bf1 (bf1 hn))))))))))
    · exact (bf1 (bf1 (bf2 (bf1 (bf2 (bf2 (bf1 (bf2 (bf1 (bf1 hn))))))))))
    · exact (bf2 (bf1 (bf2 (bf1 (bf2 (bf2 (bf1 (bf2 (bf1 (bf1 hn))))))))))
    · exact (bf1 (bf2 (bf2 (bf1 (bf2 (bf2 (bf1 (bf2 (bf1 (bf1 hn))))))))))
    · exact (bf2 (bf2 (bf2 (bf1 (bf2 (bf2 (bf1 (bf2 (bf1 (bf1 hn))))))))))
    · exact (bf1 (bf1 (bf1 (bf2 (bf2 (bf2 (bf1 (bf2 (bf1 (bf1 hn))))))))))
    · exact (bf2 (bf1 (bf1 (bf2 (bf2 (bf2 (bf1 (bf2 (bf1 (bf1 hn))))))))))
    · exact (bf1 (bf2 (bf1 (bf2 (bf2 (bf2 (bf1 (bf2 (bf1 (bf1 hn))))))))))
    · exact (bf2 (bf2 (bf1 (bf2 (bf2 (bf2 (bf1 (bf2 (bf1 (bf1 hn))))))))))
    · exact (bf1 (bf1 (bf2 (bf2 (bf2 (bf2 (bf1 (bf2 (bf1 (bf1 hn))))))))))
    · exact (bf2 (bf1 (bf2 (bf2 (bf2 (bf2 (bf1 (bf2 (bf1 (bf1 hn))))))))))
    · exact (bf1 (bf2 (bf2 (bf2 (bf2 (bf2 (bf1 (bf2 (bf1 (bf1 hn))))))))))
    · exact (bf1 (bf2 (bf2 (bf2 (bf2 (bf2 (bf2 (bf1 (bf2 (bf1 (bf1 hn)))))))))))
    · exact (bf2 (bf2 (bf2 (bf2 (bf2 (bf2 (bf2 (bf1 (bf2 (bf1 (bf1 hn)))))))))))
    · exact (bf1 (bf1 (bf1 (bf1 (bf1 (bf1 (bf2 (bf2 (bf1 (bf1 hn))))))))))
    · exact (bf2 (bf1 (bf1 (bf1 (bf1 (bf1 (bf2 (bf2 (bf1 (bf1 hn))))))))))
    · exact (bf1 (bf2 (bf1 (bf1 (bf1 (bf1 (bf2 (bf2 (bf1 (bf1 hn))))))))))
    · exact (bf2 (bf2 (bf1 (bf1 (bf1 (bf1 (bf2 (bf2 (bf1 (bf1 hn))))))))))
    · exact (bf1 (bf1 (bf2 (bf1 (bf1 (bf1 (bf2 (bf2 (bf1 (bf1 hn))))))))))
    · exact (bf2 (bf1 (bf2 (bf1 (bf1 (bf1 (bf2 (bf2 (bf1 (bf1 hn))))))))))
    · exact (bf1 (bf2 (bf2 (bf1 (bf1 (bf1 (bf2 (bf2 (bf1 (bf1 hn))))))))))
    · exact (bf2 (bf2 (bf2 (bf1 (bf1 (bf1 (bf2 (bf2 (bf1 (bf1 hn))))))))))
    · exact (bf1 (bf1 (bf1 (bf2 (bf1 (bf1 (bf2 (bf2 (bf1 (bf1 hn))))))))))
    · exact (bf2 (bf1 (bf1 (bf2 (bf1 (bf1 (bf2 (bf2 (bf1 (bf1 hn))))))))))
    · exact (bf1 (bf2 (bf1 (bf2 (bf1 (bf1 (bf2 (bf2 (bf1 (bf1 hn))))))))))
    · exact (bf2 (bf2 (bf1 (bf2 (bf1 (bf1 (bf2 (bf2 (bf1 (bf1 hn))))))))))
    · exact (bf1 (bf1 (bf2 (bf2 (bf1 (bf1 (bf2 (bf2 (bf1 (bf1 hn))))))))))
    · exact (bf2 (bf1 (bf2 (bf2 (bf1 (bf1 (bf2 (bf2 (bf1 (bf1 hn))))))))))
    · exact (bf1 (bf2 (bf2 (bf2 (bf1 (bf1 (bf2 (bf2 (bf1 (bf1 hn))))))))))
    · exact (bf2 (bf2 (bf2 (bf2 (bf1 (bf1 (bf2 (bf2 (bf1 (bf1 hn))))))))))
    · exact (bf1 (bf1 (bf1 (bf1 (bf2 (bf1 (bf2 (bf2 (bf1 (bf1 hn))))))))))
    · exact (bf2 (bf1 (bf1 (bf1 (bf2 (bf1 (bf2 (bf2 (bf1 (bf1 hn))))))))))
    · exact (bf1 (bf2 (bf1 (bf1 (bf2 (bf1 (bf2 (bf2 (bf1 (bf1 hn))))))))))
  obtain ⟨d12, ed12, hT12⟩ := va_Tof (args := #[Value.ref b]) (s := s) (N := 100) (f := fun j => .int (nI (48 + j / 10))) (A := fun q : Nat => s.heap.size ≤ q) (by decide) (bf2 (bf2 (bf2 (bf2 (bf1 (bf2 (bf2 (bf1 (bf1 (bf1 hn)))))))))) (va_eqt (bf1 (bf1 (bf1 (bf1 (bf2 (bf2 (bf2 (bf1 (bf1 (bf1 hn))))))))))) (fun j hj => va_eqt (hd1 j hj)) hA
  obtain ⟨mi, hmi⟩ := va_Mi.of (bf1 (bf2 (bf1 (bf1 (bf1 (bf1 (bf1 (bf1 (bf2 (bf1 hn))))))))))
  obtain ⟨k, hk⟩ : ∃ k : Nat → Nat, k 0 = aI ∧ k 1 = aZ ∧ k 2 = aA ∧ k 3 = aO ∧ k 4 = aB ∧ k 10 = e10 ∧ k 11 = d11 ∧ k 12 = d12 ∧ k 20 = mi ∧ k 30 = aK0 0 ∧ k 31 = aK1 0 ∧ k 32 = aV0 0 ∧ k 33 = aV1 0 ∧ k 1107 = s107 ∧ k 1126 = s126 ∧ k 1138 = s138 ∧ k 1140 = s140 ∧ k 1152 = s152 ∧ k 1154 = s154 ∧ k 1163 = s163 ∧ k 1188 = s188 ∧ k 1208 = s208 ∧ k 1216 = s216 ∧ k 1218 = s218 ∧ k 1236 = s236 ∧ k 1252 = s252 ∧ k 1042 = s42 ∧ k 1052 = s52 ∧ k 1067 = s67 ∧ k 1070 = s70 ∧ k 1075 = s75 ∧ k 1084 = s84 ∧ k 1086 = s86 ∧ k 1088 = s88 ∧ k 1090 = s90 ∧ k 1095 = s95 := ⟨fun n => if n = 0 then aI else (if n = 1 then aZ else (if n = 2 then aA else (if n = 3 then aO else (if n = 4 then aB else (if n = 10 then e10 else (if n = 11 then d11 else (if n = 12 then d12 else (if n = 20 then mi else (if n = 30 then aK0 0 else (if n = 31 then aK1 0 else (if n = 32 then aV0 0 else (if n = 33 then aV1 0 else (if n = 1107 then s107 else (if n = 1126 then s126 else (if n = 1138 then s138 else (if n = 1140 then s140 else (if n = 1152 then s152 else (if n = 1154 then s154 else (if n = 1163 then s163 else (if n = 1188 then s188 else (if n = 1208 then s208 else (if n = 1216 then s216 else (if n = 1218 then s218 else (if n = 1236 then s236 else (if n = 1252 then s252 else (if n = 1042 then s42 else (if n = 1052 then s52 else (if n = 1067 then s67 else (if n = 1070 then s70 else (if n = 1075 then s75 else (if n = 1084 then s84 else (if n = 1086 then s86 else (if n = 1088 then s88 else (if n = 1090 then s90 else (if n = 1095 then s95 else (0)))))))))))))))))))))))))))))))))))), rfl, rfl, rfl, rfl, rfl, rfl, rfl, rfl, rfl, rfl, rfl, rfl, rfl, rfl, rfl, rfl, rfl, rfl, rfl, rfl, rfl, rfl, rfl, rfl, rfl, rfl, rfl, rfl, rfl, rfl, rfl, rfl, rfl, rfl, rfl, rfl⟩
  obtain ⟨k0, k1, k2, k3, k4, k10, k11, k12, k20, k30, k31, k32, k33, k1107, k1126, k1138, k1140, k1152, k1154, k1163, k1188, k1208, k1216, k1218, k1236, k1252, k1042, k1052, k1067, k1070, k1075, k1084, k1086, k1088, k1090, k1095⟩ := hk
  have hKc : va_K (fun c => ([c0, c1, c2, c3, c4, c5, c6, c7, c8, c9, c10, c11, c12] : List ClassId).getD c 0, fun c => ([i0, i1, i2, i3, i4, i5, i6, i7, i8, i9, i10, i11, i12] : List (Nat → Nat)).getD c (fun _ => 0)) vwCl (tyG k) s := by
    refine ⟨fun c q hq => ?_, fun j q hq => ?_⟩
    · match c, hq with
      | 0, hq => cases hq; exact hK0
      | 1, hq => cases hq; exact hK1
      | 2, hq => cases hq; exact hK2
      | 3, hq => cases hq; exact hK3
      | 4, hq => cases hq; exact hK4
      | 5, hq => cases hq; exact hK5
      | 6, hq => cases hq; exact hK6
      | 7, hq => cases hq; exact hK7
      | 8, hq => cases hq; exact hK8
      | 9, hq => cases hq; exact hK9
      | 10, hq => cases hq; exact hK10
      | 11, hq => cases hq; exact hK11
      | 12, hq => cases hq; exact hK12
      | c + 13, hq => simp [vwCl] at hq
    · match j, hq with
      | 0, hq => cases hq; rw [k0]; exact ⟨AI, RI⟩
      | 1, hq => cases hq; rw [k1]; exact ⟨AZ, RZ⟩
      | 2, hq => cases hq; rw [k2]; exact ⟨AA, RA9⟩
      | 3, hq => cases hq; rw [k3]; exact ⟨AO, RO⟩
      | 4, hq => cases hq; rw [k4]; exact ⟨AB, RB⟩
      | j + 5, hq => simp [tyG] at hq
  refine ⟨_, k, ⟨hKc, ⟨by rw [k0]; exact va_nm_int RI, by rw [k1]; exact va_nm_boolean RZ, by rw [k2]; exact RA9, by rw [k3]; obtain ⟨_, _, _, _, _, h⟩ := RO; exact h, by rw [k4]; exact va_nm_byte RB⟩, List.forall_mem_cons.mpr ⟨(by show vk_R RX5 107 _ (k 1107) s; rw [k1107]; exact vk_R.of (hts0 (Cond.stringRef RX5 107 "weight is not 0 to 9") (zz_at tb0_z (i := 18) rfl)) es107), List.forall_mem_cons.mpr ⟨(by show vk_R RX5 126 _ (k 1126) s; rw [k1126]; exact vk_R.of (hts0 (Cond.stringRef RX5 126 "there is a contradiction, or there are 12 commits") (zz_at tb0_z (i := 19) rfl)) es126), List.forall_mem_cons.mpr ⟨(by show vk_R RX5 138 _ (k 1138) s; rw [k1138]; exact vk_R.of (hts0 (Cond.stringRef RX5 138 "no such commit") (zz_at tb0_z (i := 20) rfl)) es138), List.forall_mem_cons.mpr ⟨(by show vk_R RX5 140 _ (k 1140) s; rw [k1140]; exact vk_R.of (hts0 (Cond.stringRef RX5 140 "machines is not 0 to 63") (zz_at tb0_z (i := 21) rfl)) es140), List.forall_mem_cons.mpr ⟨(by show vk_R RX5 152 _ (k 1152) s; rw [k1152]; exact vk_R.of (hts0 (Cond.stringRef RX5 152 "no such machine or field") (zz_at tb0_z (i := 22) rfl)) es152), List.forall_mem_cons.mpr ⟨(by show vk_R RX5 154 _ (k 1154) s; rw [k1154]; exact vk_R.of (hts0 (Cond.stringRef RX5 154 "number is not 0 to 7") (zz_at tb0_z (i := 23) rfl)) es154), List.forall_mem_cons.mpr ⟨(by show vk_R RX5 163 _ (k 1163) s; rw [k1163]; exact vk_R.of (hts0 (Cond.stringRef RX5 163 "that does not drift there, or there are 30 lines") (zz_at tb0_z (i := 24) rfl)) es163), List.forall_mem_cons.mpr ⟨(by show vk_R RX5 188 _ (k 1188) s; rw [k1188]; exact vk_R.of (hts0 (Cond.stringRef RX5 188 "what is not 0 to 6") (zz_at tb0_z (i := 25) rfl)) es188), List.forall_mem_cons.mpr ⟨(by show vk_R RX5 208 _ (k 1208) s; rw [k1208]; exact vk_R.of (hts0 (Cond.stringRef RX5 208 "machine is not 0 to 5") (zz_at tb0_z (i := 26) rfl)) es208), List.forall_mem_cons.mpr ⟨(by show vk_R RX5 216 _ (k 1216) s; rw [k1216]; exact vk_R.of (hts0 (Cond.stringRef RX5 216 "what is not 0 to 2") (zz_at tb0_z (i := 27) rfl)) es216), List.forall_mem_cons.mpr ⟨(by show vk_R RX5 218 _ (k 1218) s; rw [k1218]; exact vk_R.of (hts0 (Cond.stringRef RX5 218 "no such commit or field") (zz_at tb0_z (i := 28) rfl)) es218), List.forall_mem_cons.mpr ⟨(by show vk_R RX5 236 _ (k 1236) s; rw [k1236]; exact vk_R.of (hts0 (Cond.stringRef RX5 236 "what is not 0 to 8") (zz_at tb0_z (i := 29) rfl)) es236), List.forall_mem_cons.mpr ⟨(by show vk_R RX5 252 _ (k 1252) s; rw [k1252]; exact vk_R.of (hts0 (Cond.stringRef RX5 252 "lines is no set of lines that there are") (zz_at tb0_z (i := 30) rfl)) es252), List.forall_mem_cons.mpr ⟨(by show vk_R RX5 42 _ (k 1042) s; rw [k1042]; exact vk_R.of (hts0 (Cond.stringRef RX5 42 "team is not 0 to 3") (zz_at tb0_z (i := 31) rfl)) es42), List.forall_mem_cons.mpr ⟨(by show vk_R RX5 52 _ (k 1052) s; rw [k1052]; exact vk_R.of (hts0 (Cond.stringRef RX5 52 "there are 5 fields") (zz_at tb0_z (i := 32) rfl)) es52), List.forall_mem_cons.mpr ⟨(by show vk_R RX5 67 _ (k 1067) s; rw [k1067]; exact vk_R.of (hts0 (Cond.stringRef RX5 67 "no such field") (zz_at tb0_z (i := 33) rfl)) es67), List.forall_mem_cons.mpr ⟨(by show vk_R RX5 70 _ (k 1070) s; rw [k1070]; exact vk_R.of (hts0 (Cond.stringRef RX5 70 "team is not 0 to 3, or set not 1 to 255") (zz_at tb0_z (i := 34) rfl)) es70), List.forall_mem_cons.mpr ⟨(by show vk_R RX5 75 _ (k 1075) s; rw [k1075]; exact vk_R.of (hts0 (Cond.stringRef RX5 75 "there are 30 lines") (zz_at tb0_z (i := 35) rfl)) es75), List.forall_mem_cons.mpr ⟨(by show vk_R RX5 84 _ (k 1084) s; rw [k1084]; exact vk_R.of (hts0 (Cond.stringRef RX5 84 "team is not 0 to 3, or number not 0 to 7") (zz_at tb0_z (i := 36) rfl)) es84), List.forall_mem_cons.mpr ⟨(by show vk_R RX5 86 _ (k 1086) s; rw [k1086]; exact vk_R.of (hts0 (Cond.stringRef RX5 86 "team is not 0 to 3, both are the same, or by is not -7 to 7") (zz_at tb0_z (i := 37) rfl)) es86), List.forall_mem_cons.mpr ⟨(by show vk_R RX5 88 _ (k 1088) s; rw [k1088]; exact vk_R.of (hts0 (Cond.stringRef RX5 88 "team is not 0 to 3, or both are the same") (zz_at tb0_z (i := 38) rfl)) es88), List.forall_mem_cons.mpr ⟨(by show vk_R RX5 90 _ (k 1090) s; rw [k1090]; exact vk_R.of (hts0 (Cond.stringRef RX5 90 "team is not 0 to 3, number not 0 to 7, or rank not 0 to 9") (zz_at tb0_z (i := 39) rfl)) es90), List.forall_mem_cons.mpr ⟨(by show vk_R RX5 95 _ (k 1095) s; rw [k1095]; exact vk_R.of (hts0 (Cond.stringRef RX5 95 "no such line") (zz_at tb0_z (i := 40) rfl)) es95), fun _ h => absurd h List.not_mem_nil⟩⟩⟩⟩⟩⟩⟩⟩⟩⟩⟩⟩⟩⟩⟩⟩⟩⟩⟩⟩⟩⟩⟩, ⟨(vx_Zqof (args := #[Value.ref b]) (hts0 (Cond.laysStatic "java/lang/Throwable" "UNASSIGNED_STACK" "[Ljava/lang/StackTraceElement;") (zz_at tb0_z (i := 66) rfl)) (hts0 (Cond.initialized "java/lang/Throwable") (zz_at tb0_z (i := 67) rfl)) (bf1 (bf2 (bf1 (bf1 (bf1 (bf1 (bf1 (bf1 (bf1 (bf1 hn)))))))))) hA), (vx_Zqof (args := #[Value.ref b]) (hts0 (Cond.laysStatic "java/lang/Throwable" "SUPPRESSED_SENTINEL" "Ljava/util/List;") (zz_at tb0_z (i := 68) rfl)) (hts0 (Cond.initialized "java/lang/Throwable") (zz_at tb0_z (i := 67) rfl)) (bf2 (bf2 (bf1 (bf1 (bf1 (bf1 (bf1 (bf1 (bf1 (bf1 hn)))))))))) hA)⟩, ⟨by rw [k30]; exact vk_R.of (hts0 (Cond.stringRef RX8 253 "") (zz_at tb0_z (i := 69) rfl)) (eK0 0 (by decide)), by rw [k31]; exact vk_R.of (hts0 (Cond.stringRef RX8 257 "!") (zz_at tb0_z (i := 70) rfl)) (eK1 0 (by decide)), two_S hS0 hS1 k30 k31 k32 k33⟩, (va_Zof (args := #[Value.ref b]) (hts0 (Cond.laysStatic "java/lang/String" "COMPACT_STRINGS" "Z") (zz_at tb0_z (i := 71) rfl)) (hts0 (Cond.initialized "java/lang/String") (zz_at tb0_z (i := 72) rfl)) (va_eqt (bf1 (bf1 (bf2 (bf1 (bf1 (bf1 (bf1 (bf1 (bf1 (bf1 hn))))))))))) hA), ⟨by rw [k10]; exact va_Zof (args := #[Value.ref b]) (hts0 (Cond.laysStatic "java/util/ArrayList" "DEFAULTCAPACITY_EMPTY_ELEMENTDATA" "[Ljava/lang/Object;") (zz_at tb0_z (i := 73) rfl)) (hts0 (Cond.initialized "java/util/ArrayList") (zz_at tb0_z (i := 74) rfl)) ev10 hA, by rw [k10]; exact hT10⟩, ⟨by rw [k11]; exact va_Zof (args := #[Value.ref b]) (hts0 (Cond.laysStatic "java/lang/Integer" "DigitOnes" "[B") (zz_at tb0_z (i := 75) rfl)) (hts0 (Cond.initialized "java/lang/Integer") (zz_at tb0_z (i := 76) rfl)) ed11 hA, by rw [k11]; exact hT11⟩, ⟨by rw [k12]; exact va_Zof (args := #[Value.ref b]) (hts0 (Cond.laysStatic "java/lang/Integer" "DigitTens" "[B") (zz_at tb0_z (i := 77) rfl)) (hts0 (Cond.initialized "java/lang/Integer") (zz_at tb0_z (i := 76) rfl)) ed12 hA, by rw [k12]; exact hT12⟩, List.forall_mem_cons.mpr ⟨(va_Nw.of (w := Cond.methodLinkNest RX5 9 yX2_init "Meetjoin") rfl (hts0 (Cond.methodLinkNest RX5 9 yX2_init "Meetjoin") (zz_at tb0_z (i := 41) rfl))), List.forall_mem_cons.mpr ⟨(va_Nw.of (w := Cond.methodLinkNest RX0 69 yX5_contains "Meetjoin") rfl (hts0 (Cond.methodLinkNest RX0 69 yX5_contains "Meetjoin") (zz_at tb0_z (i := 42) rfl))), List.forall_mem_cons.mpr ⟨(va_Nw.of (w := Cond.methodLinkNest RX3 45 yX5_contains "Meetjoin") rfl (hts0 (Cond.methodLinkNest RX3 45 yX5_contains "Meetjoin") (zz_at tb0_z (i := 43) rfl))), List.forall_mem_cons.mpr ⟨(va_Nw.of (w := Cond.methodLinkNest RX4 91 yX5_contains "Meetjoin") rfl (hts0 (Cond.methodLinkNest RX4 91 yX5_contains "Meetjoin") (zz_at tb0_z (i := 44) rfl))), List.forall_mem_cons.mpr ⟨(va_Nw.of (w := Cond.methodLinkNest RX8 90 yX7_init "MeetjoinModel") rfl (hts0 (Cond.methodLinkNest RX8 90 yX7_init "MeetjoinModel") (zz_at tb0_z (i := 45) rfl))), fun _ h => absurd h List.not_mem_nil⟩⟩⟩⟩⟩, List.forall_mem_cons.mpr ⟨(va_Nw.of (w := Cond.fieldLinkNest RL 13 "MeetjoinLaw$Out" "n" "J" "MeetjoinLaw") rfl (hts0 (Cond.fieldLinkNest RL 13 "MeetjoinLaw$Out" "n" "J" "MeetjoinLaw") (zz_at tb0_z (i := 46) rfl))), List.forall_mem_cons.mpr ⟨(va_Nw.of (w := Cond.fieldLinkNest RL 89 "MeetjoinLaw$Out" "s" "Ljava/lang/String;" "MeetjoinLaw") rfl (hts0 (Cond.fieldLinkNest RL 89 "MeetjoinLaw$Out" "s" "Ljava/lang/String;" "MeetjoinLaw") (zz_at tb0_z (i := 47) rfl))), List.forall_mem_cons.mpr ⟨(va_Nw.of (w := Cond.fieldLinkNest RX8 56 "MeetjoinModel$Line" "isWithdrawn" "Z" "MeetjoinModel") rfl (hts0 (Cond.fieldLinkNest RX8 56 "MeetjoinModel$Line" "isWithdrawn" "Z" "MeetjoinModel") (zz_at tb0_z (i := 48) rfl))), List.forall_mem_cons.mpr ⟨(va_Nw.of (w := Cond.fieldLinkNest RX8 62 "MeetjoinModel$Line" "team" "I" "MeetjoinModel") rfl (hts0 (Cond.fieldLinkNest RX8 62 "MeetjoinModel$Line" "team" "I" "MeetjoinModel") (zz_at tb0_z (i := 49) rfl))), List.forall_mem_cons.mpr ⟨(va_Nw.of (w := Cond.fieldLinkNest RX8 65 "MeetjoinModel$Line" "field" "I" "MeetjoinModel") rfl (hts0 (Cond.fieldLinkNest RX8 65 "MeetjoinModel$Line" "field" "I" "MeetjoinModel") (zz_at tb0_z (i := 50) rfl))), List.forall_mem_cons.mpr ⟨(va_Nw.of (w := Cond.fieldLinkNest RX8 68 "MeetjoinModel$Line" "isApproved" "Z" "MeetjoinModel") rfl (hts0 (Cond.fieldLinkNest RX8 68 "MeetjoinModel$Line" "isApproved" "Z" "MeetjoinModel") (zz_at tb0_z (i := 51) rfl))), List.forall_mem_cons.mpr ⟨(va_Nw.of (w := Cond.fieldLinkNest RX8 79 "MeetjoinModel$Line" "kind" "I" "MeetjoinModel") rfl (hts0 (Cond.fieldLinkNest RX8 79 "MeetjoinModel$Line" "kind" "I" "MeetjoinModel") (zz_at tb0_z (i := 52) rfl))), List.forall_mem_cons.mpr ⟨(va_Nw.of (w := Cond.fieldLinkNest RX8 91 "MeetjoinModel$Line" "what" "I" "MeetjoinModel") rfl (hts0 (Cond.fieldLinkNest RX8 91 "MeetjoinModel$Line" "what" "I" "MeetjoinModel") (zz_at tb0_z (i := 53) rfl))), List.forall_mem_cons.mpr ⟨(va_Nw.of (w := Cond.fieldLinkNest RX8 94 "MeetjoinModel$Line" "by" "I" "MeetjoinModel") rfl (hts0 (Cond.fieldLinkNest RX8 94 "MeetjoinModel$Line" "by" "I" "MeetjoinModel") (zz_at tb0_z (i := 54) rfl))), List.forall_mem_cons.mpr ⟨(va_Nw.of (w := Cond.fieldLinkNest RJx35411 28 "java/util/ArrayList" "size" "I" "java/util/ArrayList") rfl (hts0 (Cond.fieldLinkNest RJx35411 28 "java/util/ArrayList" "size" "I" "java/util/ArrayList") (zz_at tb0_z (i := 55) rfl))), fun _ h => absurd h List.not_mem_nil⟩⟩⟩⟩⟩⟩⟩⟩⟩⟩, List.forall_mem_cons.mpr ⟨(va_Nw.of (w := Cond.castable "MeetjoinModel$Line" "java/lang/Object") rfl (hts0 (Cond.castable "MeetjoinModel$Line" "java/lang/Object") (zz_at tb0_z (i := 56) rfl))), List.forall_mem_cons.mpr ⟨(va_Nw.of (w := Cond.castable "[I" "java/lang/Object") rfl (hts0 (Cond.castable "[I" "java/lang/Object") (zz_at tb0_z (i := 57) rfl))), List.forall_mem_cons.mpr ⟨(va_Nw.of (w := Cond.castable "java/util/ArrayList$Itr" "java/util/Iterator") rfl (hts0 (Cond.castable "java/util/ArrayList$Itr" "java/util/Iterator") (zz_at tb0_z (i := 58) rfl))), List.forall_mem_cons.mpr ⟨(va_Nw.of (w := Cond.castable "java/util/ArrayList$Itr" "java/lang/Object") rfl (hts0 (Cond.castable "java/util/ArrayList$Itr" "java/lang/Object") (zz_at tb0_z (i := 59) rfl))), List.forall_mem_cons.mpr ⟨(va_Nw.of (w := Cond.castable "java/lang/IllegalArgumentException" "java/lang/IllegalArgumentException") rfl (hts0 (Cond.castable "java/lang/IllegalArgumentException" "java/lang/IllegalArgumentException") (zz_at tb0_z (i := 60) rfl))), List.forall_mem_cons.mpr ⟨(va_Nw.of (w := Cond.castable "java/lang/IllegalStateException" "java/lang/IllegalStateException") rfl (hts0 (Cond.castable "java/lang/IllegalStateException" "java/lang/IllegalStateException") (zz_at tb0_z (i := 61) rfl))), List.forall_mem_cons.mpr ⟨(va_Nw.of (w := Cond.castable "java/lang/IndexOutOfBoundsException" "java/lang/IndexOutOfBoundsException") rfl (hts0 (Cond.castable "java/lang/IndexOutOfBoundsException" "java/lang/IndexOutOfBoundsException") (zz_at tb0_z (i := 62) rfl))), fun _ h => absurd h List.not_mem_nil⟩⟩⟩⟩⟩⟩⟩, List.forall_mem_cons.mpr ⟨(va_Nw.of (w := Cond.declares ⟨"java/lang/RuntimeException", "<init>", "(Ljava/lang/String;)V"⟩) rfl (hts0 (Cond.declares ⟨"java/lang/RuntimeException", "<init>", "(Ljava/lang/String;)V"⟩) (zz_at tb0_z (i := 63) rfl))), List.forall_mem_cons.mpr ⟨(va_Nw.of (w := Cond.declares ⟨"java/lang/Exception", "<init>", "(Ljava/lang/String;)V"⟩) rfl (hts0 (Cond.declares ⟨"java/lang/Exception", "<init>", "(Ljava/lang/String;)V"⟩) (zz_at tb0_z (i := 64) rfl))), List.forall_mem_cons.mpr ⟨(va_Nw.of (w := Cond.declares ⟨"java/lang/Throwable", "<init>", "(Ljava/lang/String;)V"⟩) rfl (hts0 (Cond.declares ⟨"java/lang/Throwable", "<init>", "(Ljava/lang/String;)V"⟩) (zz_at tb0_z (i := 65) rfl))), fun _ h => absurd h List.not_mem_nil⟩⟩⟩, ⟨(va_Fw.of (A := #[Value.ref b]) (hts0 (Cond.declares ⟨"java/util/Iterator", "hasNext", "()Z"⟩) (zz_at tb0_z (i := 78) rfl)) (hts0 (Cond.interfaceMethod "java/util/Iterator" "java/util/Iterator" "hasNext" "()Z") (zz_at tb0_z (i := 79) rfl)) (hts0 (Cond.publicMethod yJx35411_hasNext_aae02) (zz_at tb0_z (i := 80) rfl)) (hts0 (Cond.unhidden RJx35411 "hasNext" "()Z") (zz_at tb0_z (i := 81) rfl)) (hts0 (Cond.castable RJx35411 "java/util/Iterator") (zz_at tb0_z (i := 82) rfl))), (va_Fw.of (A := #[Value.ref b]) (hts0 (Cond.declares ⟨"java/util/Iterator", "next", "()Ljava/lang/Object;"⟩) (zz_at tb0_z (i := 83) rfl)) (hts0 (Cond.interfaceMethod "java/util/Iterator" "java/util/Iterator" "next" "()Ljava/lang/Object;") (zz_at tb0_z (i := 84) rfl)) (hts0 (Cond.publicMethod yJx35411_next_0502b) (zz_at tb0_z (i := 85) rfl)) (hts0 (Cond.unhidden RJx35411 "next" "()Ljava/lang/Object;") (zz_at tb0_z (i := 86) rfl)) (hts0 (Cond.castable RJx35411 "java/util/Iterator") (zz_at tb0_z (i := 82) rfl)))⟩, ⟨va_Dc.of (hts0 (Cond.declares ⟨"java/lang/Object", "getClass", "()Ljava/lang/Class;"⟩) (zz_at tb0_z (i := 87) rfl)), by rw [k20]; exact hmi⟩, va_AO.of (hts0 (Cond.arrayOver (.object "java/lang/Object")) (zz_at tb0_z (i := 17) rfl)), va_AOA.of (hts0 (Cond.arrayOver (.array .int)) (zz_at tb0_z (i := 16) rfl))⟩, ⟨va_Nc.of (bf2 (bf2 (bf2 (bf2 (bf2 (bf2 (bf1 (bf2 (bf2 (bf1 (bf1 hn))))))))))), va_Nc.of (bf2 (bf1 (bf2 (bf2 (bf2 (bf2 (bf2 (bf2 (bf1 (bf1 hn)))))))))), va_Nc.of (bf1 (bf2 (bf2 (bf2 (bf2 (bf2 (bf2 (bf2 (bf1 (bf1 hn))))))))))⟩, (va_Nw.of (w := Cond.methodLinkNest RL 110 yX6_init "MeetjoinLaw") rfl (hts0 (Cond.methodLinkNest RL 110 yX6_init "MeetjoinLaw") (zz_at tb0_z (i := 88) rfl)))⟩
