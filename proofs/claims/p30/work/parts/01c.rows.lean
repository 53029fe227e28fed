/-- decode rows of one method, all at once -/
def dk (c : ByteArray) (L : List (Nat × Instr × Nat)) : Bool := L.all (fun q => decide (decode c q.1 = .ok q.2))
theorem dk_at {c : ByteArray} {L : List (Nat × Instr × Nat)} (h : dk c L = true) {i pc : Nat} {r : Instr × Nat} (e : L[i]? = some (pc, r)) : decode c pc = .ok r := of_decide_eq_true (List.all_eq_true.mp h (pc, r) (List.mem_of_getElem? e))
theorem k_dX0_init_0 : dk cX0_init [(0, .aload_n 0, 1), (1, .invokespecial 3, 3), (4, .aload_n 0, 1), (5, .iconst 5, 1), (6, .newarray .int, 2), (8, .putfield 9, 3), (11, .aload_n 0, 1), (12, .iconst 5, 1), (13, .newarray .int, 2), (15, .putfield 15, 3), (18, .aload_n 0, 1), (19, .iconst 5, 1), (20, .newarray .int, 2), (22, .putfield 18, 3), (25, .aload_n 0, 1), (26, .aload_n 1, 1), (27, .putfield 21, 3), (30, .aload_n 0, 1), (31, .getfield 18, 3), (34, .iconst (-1), 1), (35, .invokestatic 25, 3), (38, .aload_n 0, 1), (39, .iconst (-1), 1), (40, .putfield 31, 3), (43, .return_, 1)] = true := by decide +kernel
theorem dX0_init_0 : decode cX0_init 0 = .ok (.aload_n 0, 1) := dk_at k_dX0_init_0 (i := 0) rfl
theorem dX0_init_1 : decode cX0_init 1 = .ok (.invokespecial 3, 3) := dk_at k_dX0_init_0 (i := 1) rfl
theorem dX0_init_4 : decode cX0_init 4 = .ok (.aload_n 0, 1) := dk_at k_dX0_init_0 (i := 2) rfl
theorem dX0_init_5 : decode cX0_init 5 = .ok (.iconst 5, 1) := dk_at k_dX0_init_0 (i := 3) rfl
theorem dX0_init_6 : decode cX0_init 6 = .ok (.newarray .int, 2) := dk_at k_dX0_init_0 (i := 4) rfl
theorem dX0_init_8 : decode cX0_init 8 = .ok (.putfield 9, 3) := dk_at k_dX0_init_0 (i := 5) rfl
theorem dX0_init_11 : decode cX0_init 11 = .ok (.aload_n 0, 1) := dk_at k_dX0_init_0 (i := 6) rfl
theorem dX0_init_12 : decode cX0_init 12 = .ok (.iconst 5, 1) := dk_at k_dX0_init_0 (i := 7) rfl
theorem dX0_init_13 : decode cX0_init 13 = .ok (.newarray .int, 2) := dk_at k_dX0_init_0 (i := 8) rfl
theorem dX0_init_15 : decode cX0_init 15 = .ok (.putfield 15, 3) := dk_at k_dX0_init_0 (i := 9) rfl
theorem dX0_init_18 : decode cX0_init 18 = .ok (.aload_n 0, 1) := dk_at k_dX0_init_0 (i := 10) rfl
theorem dX0_init_19 : decode cX0_init 19 = .ok (.iconst 5, 1) := dk_at k_dX0_init_0 (i := 11) rfl
theorem dX0_init_20 : decode cX0_init 20 = .ok (.newarray .int, 2) := dk_at k_dX0_init_0 (i := 12) rfl
theorem dX0_init_22 : decode cX0_init 22 = .ok (.putfield 18, 3) := dk_at k_dX0_init_0 (i := 13) rfl
theorem dX0_init_25 : decode cX0_init 25 = .ok (.aload_n 0, 1) := dk_at k_dX0_init_0 (i := 14) rfl
theorem dX0_init_26 : decode cX0_init 26 = .ok (.aload_n 1, 1) := dk_at k_dX0_init_0 (i := 15) rfl
theorem dX0_init_27 : decode cX0_init 27 = .ok (.putfield 21, 3) := dk_at k_dX0_init_0 (i := 16) rfl
theorem dX0_init_30 : decode cX0_init 30 = .ok (.aload_n 0, 1) := dk_at k_dX0_init_0 (i := 17) rfl
theorem dX0_init_31 : decode cX0_init 31 = .ok (.getfield 18, 3) := dk_at k_dX0_init_0 (i := 18) rfl
theorem dX0_init_34 : decode cX0_init 34 = .ok (.iconst (-1), 1) := dk_at k_dX0_init_0 (i := 19) rfl
theorem dX0_init_35 : decode cX0_init 35 = .ok (.invokestatic 25, 3) := dk_at k_dX0_init_0 (i := 20) rfl
theorem dX0_init_38 : decode cX0_init 38 = .ok (.aload_n 0, 1) := dk_at k_dX0_init_0 (i := 21) rfl
theorem dX0_init_39 : decode cX0_init 39 = .ok (.iconst (-1), 1) := dk_at k_dX0_init_0 (i := 22) rfl
theorem dX0_init_40 : decode cX0_init 40 = .ok (.putfield 31, 3) := dk_at k_dX0_init_0 (i := 23) rfl
theorem dX0_init_43 : decode cX0_init 43 = .ok (.return_, 1) := dk_at k_dX0_init_0 (i := 24) rfl
theorem k_dX0_findBest_0 : dk cX0_findBest [(0, .aload_n 1, 1), (1, .getfield 35, 3), (4, .iconst 0, 1), (5, .aload_n 0, 1), (6, .getfield 9, 3), (9, .iconst 0, 1), (10, .iconst 5, 1), (11, .invokestatic 40, 3), (14, .aload_n 0, 1), (15, .iload_n 2, 1), (16, .putfield 46, 3), (19, .aload_n 0, 1), (20, .iconst (-1), 1), (21, .putfield 31, 3), (24, .aload_n 0, 1), (25, .getfield 18, 3), (28, .iconst (-1), 1), (29, .invokestatic 25, 3), (32, .aload_n 0, 1), (33, .getfield 21, 3), (36, .getfield 49, 3), (39, .ifCond .le 9, 3), (42, .aload_n 0, 1), (43, .iconst 0, 1), (44, .iconst 0, 1), (45, .invokestatic 54, 3), (48, .return_, 1)] = true := by decide +kernel
theorem dX0_findBest_0 : decode cX0_findBest 0 = .ok (.aload_n 1, 1) := dk_at k_dX0_findBest_0 (i := 0) rfl
theorem dX0_findBest_1 : decode cX0_findBest 1 = .ok (.getfield 35, 3) := dk_at k_dX0_findBest_0 (i := 1) rfl
theorem dX0_findBest_4 : decode cX0_findBest 4 = .ok (.iconst 0, 1) := dk_at k_dX0_findBest_0 (i := 2) rfl
theorem dX0_findBest_5 : decode cX0_findBest 5 = .ok (.aload_n 0, 1) := dk_at k_dX0_findBest_0 (i := 3) rfl
theorem dX0_findBest_6 : decode cX0_findBest 6 = .ok (.getfield 9, 3) := dk_at k_dX0_findBest_0 (i := 4) rfl
theorem dX0_findBest_9 : decode cX0_findBest 9 = .ok (.iconst 0, 1) := dk_at k_dX0_findBest_0 (i := 5) rfl
theorem dX0_findBest_10 : decode cX0_findBest 10 = .ok (.iconst 5, 1) := dk_at k_dX0_findBest_0 (i := 6) rfl
theorem dX0_findBest_11 : decode cX0_findBest 11 = .ok (.invokestatic 40, 3) := dk_at k_dX0_findBest_0 (i := 7) rfl
theorem dX0_findBest_14 : decode cX0_findBest 14 = .ok (.aload_n 0, 1) := dk_at k_dX0_findBest_0 (i := 8) rfl
theorem dX0_findBest_15 : decode cX0_findBest 15 = .ok (.iload_n 2, 1) := dk_at k_dX0_findBest_0 (i := 9) rfl
theorem dX0_findBest_16 : decode cX0_findBest 16 = .ok (.putfield 46, 3) := dk_at k_dX0_findBest_0 (i := 10) rfl
theorem dX0_findBest_19 : decode cX0_findBest 19 = .ok (.aload_n 0, 1) := dk_at k_dX0_findBest_0 (i := 11) rfl
theorem dX0_findBest_20 : decode cX0_findBest 20 = .ok (.iconst (-1), 1) := dk_at k_dX0_findBest_0 (i := 12) rfl
theorem dX0_findBest_21 : decode cX0_findBest 21 = .ok (.putfield 31, 3) := dk_at k_dX0_findBest_0 (i := 13) rfl
theorem dX0_findBest_24 : decode cX0_findBest 24 = .ok (.aload_n 0, 1) := dk_at k_dX0_findBest_0 (i := 14) rfl
theorem dX0_findBest_25 : decode cX0_findBest 25 = .ok (.getfield 18, 3) := dk_at k_dX0_findBest_0 (i := 15) rfl
theorem dX0_findBest_28 : decode cX0_findBest 28 = .ok (.iconst (-1), 1) := dk_at k_dX0_findBest_0 (i := 16) rfl
theorem dX0_findBest_29 : decode cX0_findBest 29 = .ok (.invokestatic 25, 3) := dk_at k_dX0_findBest_0 (i := 17) rfl
theorem dX0_findBest_32 : decode cX0_findBest 32 = .ok (.aload_n 0, 1) := dk_at k_dX0_findBest_0 (i := 18) rfl
theorem dX0_findBest_33 : decode cX0_findBest 33 = .ok (.getfield 21, 3) := dk_at k_dX0_findBest_0 (i := 19) rfl
theorem dX0_findBest_36 : decode cX0_findBest 36 = .ok (.getfield 49, 3) := dk_at k_dX0_findBest_0 (i := 20) rfl
theorem dX0_findBest_39 : decode cX0_findBest 39 = .ok (.ifCond .le 9, 3) := dk_at k_dX0_findBest_0 (i := 21) rfl
theorem dX0_findBest_42 : decode cX0_findBest 42 = .ok (.aload_n 0, 1) := dk_at k_dX0_findBest_0 (i := 22) rfl
theorem dX0_findBest_43 : decode cX0_findBest 43 = .ok (.iconst 0, 1) := dk_at k_dX0_findBest_0 (i := 23) rfl
theorem dX0_findBest_44 : decode cX0_findBest 44 = .ok (.iconst 0, 1) := dk_at k_dX0_findBest_0 (i := 24) rfl
theorem dX0_findBest_45 : decode cX0_findBest 45 = .ok (.invokestatic 54, 3) := dk_at k_dX0_findBest_0 (i := 25) rfl
theorem dX0_findBest_48 : decode cX0_findBest 48 = .ok (.return_, 1) := dk_at k_dX0_findBest_0 (i := 26) rfl
theorem k_dX0_chooseFrom_0 : dk cX0_chooseFrom [(0, .aload_n 0, 1), (1, .getfield 31, 3), (4, .iconst (-1), 1), (5, .if_icmp .eq 12, 3), (8, .iload_n 2, 1), (9, .aload_n 0, 1), (10, .getfield 31, 3), (13, .if_icmp .lt 4, 3), (16, .return_, 1), (17, .iload_n 1, 1), (18, .aload_n 0, 1), (19, .getfield 21, 3), (22, .getfield 49, 3), (25, .if_icmp .lt 29, 3), (28, .aload_n 0, 1), (29, .iload_n 2, 1), (30, .putfield 31, 3), (33, .aload_n 0, 1), (34, .getfield 15, 3), (37, .iconst 0, 1), (38, .aload_n 0, 1), (39, .getfield 18, 3), (42, .iconst 0, 1), (43, .aload_n 0, 1), (44, .getfield 21, 3), (47, .getfield 49, 3), (50, .invokestatic 40, 3), (53, .return_, 1), (54, .aload_n 0, 1), (55, .iload_n 1, 1), (56, .invokevirtual 65, 3), (59, .istore_n 3, 1)] = true := by decide +kernel
theorem dX0_chooseFrom_0 : decode cX0_chooseFrom 0 = .ok (.aload_n 0, 1) := dk_at k_dX0_chooseFrom_0 (i := 0) rfl
theorem dX0_chooseFrom_1 : decode cX0_chooseFrom 1 = .ok (.getfield 31, 3) := dk_at k_dX0_chooseFrom_0 (i := 1) rfl
theorem dX0_chooseFrom_4 : decode cX0_chooseFrom 4 = .ok (.iconst (-1), 1) := dk_at k_dX0_chooseFrom_0 (i := 2) rfl
theorem dX0_chooseFrom_5 : decode cX0_chooseFrom 5 = .ok (.if_icmp .eq 12, 3) := dk_at k_dX0_chooseFrom_0 (i := 3) rfl
theorem dX0_chooseFrom_8 : decode cX0_chooseFrom 8 = .ok (.iload_n 2, 1) := dk_at k_dX0_chooseFrom_0 (i := 4) rfl
theorem dX0_chooseFrom_9 : decode cX0_chooseFrom 9 = .ok (.aload_n 0, 1) := dk_at k_dX0_chooseFrom_0 (i := 5) rfl
theorem dX0_chooseFrom_10 : decode cX0_chooseFrom 10 = .ok (.getfield 31, 3) := dk_at k_dX0_chooseFrom_0 (i := 6) rfl
theorem dX0_chooseFrom_13 : decode cX0_chooseFrom 13 = .ok (.if_icmp .lt 4, 3) := dk_at k_dX0_chooseFrom_0 (i := 7) rfl
theorem dX0_chooseFrom_16 : decode cX0_chooseFrom 16 = .ok (.return_, 1) := dk_at k_dX0_chooseFrom_0 (i := 8) rfl
theorem dX0_chooseFrom_17 : decode cX0_chooseFrom 17 = .ok (.iload_n 1, 1) := dk_at k_dX0_chooseFrom_0 (i := 9) rfl
theorem dX0_chooseFrom_18 : decode cX0_chooseFrom 18 = .ok (.aload_n 0, 1) := dk_at k_dX0_chooseFrom_0 (i := 10) rfl
theorem dX0_chooseFrom_19 : decode cX0_chooseFrom 19 = .ok (.getfield 21, 3) := dk_at k_dX0_chooseFrom_0 (i := 11) rfl
theorem dX0_chooseFrom_22 : decode cX0_chooseFrom 22 = .ok (.getfield 49, 3) := dk_at k_dX0_chooseFrom_0 (i := 12) rfl
theorem dX0_chooseFrom_25 : decode cX0_chooseFrom 25 = .ok (.if_icmp .lt 29, 3) := dk_at k_dX0_chooseFrom_0 (i := 13) rfl
theorem dX0_chooseFrom_28 : decode cX0_chooseFrom 28 = .ok (.aload_n 0, 1) := dk_at k_dX0_chooseFrom_0 (i := 14) rfl
theorem dX0_chooseFrom_29 : decode cX0_chooseFrom 29 = .ok (.iload_n 2, 1) := dk_at k_dX0_chooseFrom_0 (i := 15) rfl
theorem dX0_chooseFrom_30 : decode cX0_chooseFrom 30 = .ok (.putfield 31, 3) := dk_at k_dX0_chooseFrom_0 (i := 16) rfl
theorem dX0_chooseFrom_33 : decode cX0_chooseFrom 33 = .ok (.aload_n 0, 1) := dk_at k_dX0_chooseFrom_0 (i := 17) rfl
theorem dX0_chooseFrom_34 : decode cX0_chooseFrom 34 = .ok (.getfield 15, 3) := dk_at k_dX0_chooseFrom_0 (i := 18) rfl
theorem dX0_chooseFrom_37 : decode cX0_chooseFrom 37 = .ok (.iconst 0, 1) := dk_at k_dX0_chooseFrom_0 (i := 19) rfl
theorem dX0_chooseFrom_38 : decode cX0_chooseFrom 38 = .ok (.aload_n 0, 1) := dk_at k_dX0_chooseFrom_0 (i := 20) rfl
theorem dX0_chooseFrom_39 : decode cX0_chooseFrom 39 = .ok (.getfield 18, 3) := dk_at k_dX0_chooseFrom_0 (i := 21) rfl
theorem dX0_chooseFrom_42 : decode cX0_chooseFrom 42 = .ok (.iconst 0, 1) := dk_at k_dX0_chooseFrom_0 (i := 22) rfl
theorem dX0_chooseFrom_43 : decode cX0_chooseFrom 43 = .ok (.aload_n 0, 1) := dk_at k_dX0_chooseFrom_0 (i := 23) rfl
theorem dX0_chooseFrom_44 : decode cX0_chooseFrom 44 = .ok (.getfield 21, 3) := dk_at k_dX0_chooseFrom_0 (i := 24) rfl
theorem dX0_chooseFrom_47 : decode cX0_chooseFrom 47 = .ok (.getfield 49, 3) := dk_at k_dX0_chooseFrom_0 (i := 25) rfl
theorem dX0_chooseFrom_50 : decode cX0_chooseFrom 50 = .ok (.invokestatic 40, 3) := dk_at k_dX0_chooseFrom_0 (i := 26) rfl
theorem dX0_chooseFrom_53 : decode cX0_chooseFrom 53 = .ok (.return_, 1) := dk_at k_dX0_chooseFrom_0 (i := 27) rfl
theorem dX0_chooseFrom_54 : decode cX0_chooseFrom 54 = .ok (.aload_n 0, 1) := dk_at k_dX0_chooseFrom_0 (i := 28) rfl
theorem dX0_chooseFrom_55 : decode cX0_chooseFrom 55 = .ok (.iload_n 1, 1) := dk_at k_dX0_chooseFrom_0 (i := 29) rfl
theorem dX0_chooseFrom_56 : decode cX0_chooseFrom 56 = .ok (.invokevirtual 65, 3) := dk_at k_dX0_chooseFrom_0 (i := 30) rfl
theorem dX0_chooseFrom_59 : decode cX0_chooseFrom 59 = .ok (.istore_n 3, 1) := dk_at k_dX0_chooseFrom_0 (i := 31) rfl
theorem k_dX0_chooseFrom_60 : dk cX0_chooseFrom [(60, .iconst 0, 1), (61, .istore 4, 2), (63, .iload 4, 2), (65, .bipush 8, 2), (67, .if_icmp .ge 47, 3), (70, .iload_n 3, 1), (71, .iload 4, 2), (73, .invokestatic 69, 3), (76, .ifCond .eq 32, 3), (79, .aload_n 0, 1), (80, .getfield 15, 3), (83, .iload_n 1, 1), (84, .iload 4, 2), (86, .iastore, 1), (87, .aload_n 0, 1), (88, .iload_n 1, 1), (89, .iconst 1, 1), (90, .iadd, 1), (91, .iload_n 2, 1), (92, .aload_n 0, 1), (93, .getfield 21, 3), (96, .getfield 73, 3), (99, .iload_n 1, 1), (100, .iaload, 1), (101, .iload 4, 2), (103, .imul, 1), (104, .iadd, 1), (105, .invokestatic 54, 3), (108, .iinc 4 1, 3), (111, .goto (-48), 3), (114, .return_, 1)] = true := by decide +kernel
theorem dX0_chooseFrom_60 : decode cX0_chooseFrom 60 = .ok (.iconst 0, 1) := dk_at k_dX0_chooseFrom_60 (i := 0) rfl
theorem dX0_chooseFrom_61 : decode cX0_chooseFrom 61 = .ok (.istore 4, 2) := dk_at k_dX0_chooseFrom_60 (i := 1) rfl
theorem dX0_chooseFrom_63 : decode cX0_chooseFrom 63 = .ok (.iload 4, 2) := dk_at k_dX0_chooseFrom_60 (i := 2) rfl
theorem dX0_chooseFrom_65 : decode cX0_chooseFrom 65 = .ok (.bipush 8, 2) := dk_at k_dX0_chooseFrom_60 (i := 3) rfl
theorem dX0_chooseFrom_67 : decode cX0_chooseFrom 67 = .ok (.if_icmp .ge 47, 3) := dk_at k_dX0_chooseFrom_60 (i := 4) rfl
theorem dX0_chooseFrom_70 : decode cX0_chooseFrom 70 = .ok (.iload_n 3, 1) := dk_at k_dX0_chooseFrom_60 (i := 5) rfl
theorem dX0_chooseFrom_71 : decode cX0_chooseFrom 71 = .ok (.iload 4, 2) := dk_at k_dX0_chooseFrom_60 (i := 6) rfl
theorem dX0_chooseFrom_73 : decode cX0_chooseFrom 73 = .ok (.invokestatic 69, 3) := dk_at k_dX0_chooseFrom_60 (i := 7) rfl
theorem dX0_chooseFrom_76 : decode cX0_chooseFrom 76 = .ok (.ifCond .eq 32, 3) := dk_at k_dX0_chooseFrom_60 (i := 8) rfl
theorem dX0_chooseFrom_79 : decode cX0_chooseFrom 79 = .ok (.aload_n 0, 1) := dk_at k_dX0_chooseFrom_60 (i := 9) rfl
theorem dX0_chooseFrom_80 : decode cX0_chooseFrom 80 = .ok (.getfield 15, 3) := dk_at k_dX0_chooseFrom_60 (i := 10) rfl
theorem dX0_chooseFrom_83 : decode cX0_chooseFrom 83 = .ok (.iload_n 1, 1) := dk_at k_dX0_chooseFrom_60 (i := 11) rfl
theorem dX0_chooseFrom_84 : decode cX0_chooseFrom 84 = .ok (.iload 4, 2) := dk_at k_dX0_chooseFrom_60 (i := 12) rfl
theorem dX0_chooseFrom_86 : decode cX0_chooseFrom 86 = .ok (.iastore, 1) := dk_at k_dX0_chooseFrom_60 (i := 13) rfl
theorem dX0_chooseFrom_87 : decode cX0_chooseFrom 87 = .ok (.aload_n 0, 1) := dk_at k_dX0_chooseFrom_60 (i := 14) rfl
theorem dX0_chooseFrom_88 : decode cX0_chooseFrom 88 = .ok (.iload_n 1, 1) := dk_at k_dX0_chooseFrom_60 (i := 15) rfl
theorem dX0_chooseFrom_89 : decode cX0_chooseFrom 89 = .ok (.iconst 1, 1) := dk_at k_dX0_chooseFrom_60 (i := 16) rfl
theorem dX0_chooseFrom_90 : decode cX0_chooseFrom 90 = .ok (.iadd, 1) := dk_at k_dX0_chooseFrom_60 (i := 17) rfl
theorem dX0_chooseFrom_91 : decode cX0_chooseFrom 91 = .ok (.iload_n 2, 1) := dk_at k_dX0_chooseFrom_60 (i := 18) rfl
theorem dX0_chooseFrom_92 : decode cX0_chooseFrom 92 = .ok (.aload_n 0, 1) := dk_at k_dX0_chooseFrom_60 (i := 19) rfl
theorem dX0_chooseFrom_93 : decode cX0_chooseFrom 93 = .ok (.getfield 21, 3) := dk_at k_dX0_chooseFrom_60 (i := 20) rfl
theorem dX0_chooseFrom_96 : decode cX0_chooseFrom 96 = .ok (.getfield 73, 3) := dk_at k_dX0_chooseFrom_60 (i := 21) rfl
theorem dX0_chooseFrom_99 : decode cX0_chooseFrom 99 = .ok (.iload_n 1, 1) := dk_at k_dX0_chooseFrom_60 (i := 22) rfl
theorem dX0_chooseFrom_100 : decode cX0_chooseFrom 100 = .ok (.iaload, 1) := dk_at k_dX0_chooseFrom_60 (i := 23) rfl
theorem dX0_chooseFrom_101 : decode cX0_chooseFrom 101 = .ok (.iload 4, 2) := dk_at k_dX0_chooseFrom_60 (i := 24) rfl
theorem dX0_chooseFrom_103 : decode cX0_chooseFrom 103 = .ok (.imul, 1) := dk_at k_dX0_chooseFrom_60 (i := 25) rfl
theorem dX0_chooseFrom_104 : decode cX0_chooseFrom 104 = .ok (.iadd, 1) := dk_at k_dX0_chooseFrom_60 (i := 26) rfl
theorem dX0_chooseFrom_105 : decode cX0_chooseFrom 105 = .ok (.invokestatic 54, 3) := dk_at k_dX0_chooseFrom_60 (i := 27) rfl
theorem dX0_chooseFrom_108 : decode cX0_chooseFrom 108 = .ok (.iinc 4 1, 3) := dk_at k_dX0_chooseFrom_60 (i := 28) rfl
theorem dX0_chooseFrom_111 : decode cX0_chooseFrom 111 = .ok (.goto (-48), 3) := dk_at k_dX0_chooseFrom_60 (i := 29) rfl
theorem dX0_chooseFrom_114 : decode cX0_chooseFrom 114 = .ok (.return_, 1) := dk_at k_dX0_chooseFrom_60 (i := 30) rfl
theorem k_dX0_fittingAt_0 : dk cX0_fittingAt [(0, .aload_n 0, 1), (1, .getfield 9, 3), (4, .iload_n 1, 1), (5, .iaload, 1), (6, .istore_n 2, 1), (7, .iconst 0, 1), (8, .istore_n 3, 1), (9, .iload_n 3, 1), (10, .aload_n 0, 1), (11, .getfield 21, 3), (14, .getfield 76, 3), (17, .if_icmp .ge 122, 3), (20, .aload_n 0, 1), (21, .getfield 46, 3), (24, .iload_n 3, 1), (25, .invokestatic 69, 3), (28, .ifCond .eq 105, 3), (31, .aload_n 0, 1), (32, .getfield 21, 3), (35, .iload_n 3, 1), (36, .invokevirtual 77, 3), (39, .ifCond .eq 94, 3), (42, .aload_n 0, 1), (43, .getfield 21, 3), (46, .getfield 81, 3), (49, .iload_n 3, 1), (50, .iaload, 1), (51, .istore 4, 2), (53, .aload_n 0, 1), (54, .getfield 21, 3), (57, .getfield 84, 3), (60, .iload_n 3, 1)] = true := by decide +kernel
theorem dX0_fittingAt_0 : decode cX0_fittingAt 0 = .ok (.aload_n 0, 1) := dk_at k_dX0_fittingAt_0 (i := 0) rfl
theorem dX0_fittingAt_1 : decode cX0_fittingAt 1 = .ok (.getfield 9, 3) := dk_at k_dX0_fittingAt_0 (i := 1) rfl
theorem dX0_fittingAt_4 : decode cX0_fittingAt 4 = .ok (.iload_n 1, 1) := dk_at k_dX0_fittingAt_0 (i := 2) rfl
theorem dX0_fittingAt_5 : decode cX0_fittingAt 5 = .ok (.iaload, 1) := dk_at k_dX0_fittingAt_0 (i := 3) rfl
theorem dX0_fittingAt_6 : decode cX0_fittingAt 6 = .ok (.istore_n 2, 1) := dk_at k_dX0_fittingAt_0 (i := 4) rfl
theorem dX0_fittingAt_7 : decode cX0_fittingAt 7 = .ok (.iconst 0, 1) := dk_at k_dX0_fittingAt_0 (i := 5) rfl
theorem dX0_fittingAt_8 : decode cX0_fittingAt 8 = .ok (.istore_n 3, 1) := dk_at k_dX0_fittingAt_0 (i := 6) rfl
theorem dX0_fittingAt_9 : decode cX0_fittingAt 9 = .ok (.iload_n 3, 1) := dk_at k_dX0_fittingAt_0 (i := 7) rfl
theorem dX0_fittingAt_10 : decode cX0_fittingAt 10 = .ok (.aload_n 0, 1) := dk_at k_dX0_fittingAt_0 (i := 8) rfl
theorem dX0_fittingAt_11 : decode cX0_fittingAt 11 = .ok (.getfield 21, 3) := dk_at k_dX0_fittingAt_0 (i := 9) rfl
theorem dX0_fittingAt_14 : decode cX0_fittingAt 14 = .ok (.getfield 76, 3) := dk_at k_dX0_fittingAt_0 (i := 10) rfl
theorem dX0_fittingAt_17 : decode cX0_fittingAt 17 = .ok (.if_icmp .ge 122, 3) := dk_at k_dX0_fittingAt_0 (i := 11) rfl
theorem dX0_fittingAt_20 : decode cX0_fittingAt 20 = .ok (.aload_n 0, 1) := dk_at k_dX0_fittingAt_0 (i := 12) rfl
theorem dX0_fittingAt_21 : decode cX0_fittingAt 21 = .ok (.getfield 46, 3) := dk_at k_dX0_fittingAt_0 (i := 13) rfl
theorem dX0_fittingAt_24 : decode cX0_fittingAt 24 = .ok (.iload_n 3, 1) := dk_at k_dX0_fittingAt_0 (i := 14) rfl
theorem dX0_fittingAt_25 : decode cX0_fittingAt 25 = .ok (.invokestatic 69, 3) := dk_at k_dX0_fittingAt_0 (i := 15) rfl
theorem dX0_fittingAt_28 : decode cX0_fittingAt 28 = .ok (.ifCond .eq 105, 3) := dk_at k_dX0_fittingAt_0 (i := 16) rfl
theorem dX0_fittingAt_31 : decode cX0_fittingAt 31 = .ok (.aload_n 0, 1) := dk_at k_dX0_fittingAt_0 (i := 17) rfl
theorem dX0_fittingAt_32 : decode cX0_fittingAt 32 = .ok (.getfield 21, 3) := dk_at k_dX0_fittingAt_0 (i := 18) rfl
theorem dX0_fittingAt_35 : decode cX0_fittingAt 35 = .ok (.iload_n 3, 1) := dk_at k_dX0_fittingAt_0 (i := 19) rfl
theorem dX0_fittingAt_36 : decode cX0_fittingAt 36 = .ok (.invokevirtual 77, 3) := dk_at k_dX0_fittingAt_0 (i := 20) rfl
theorem dX0_fittingAt_39 : decode cX0_fittingAt 39 = .ok (.ifCond .eq 94, 3) := dk_at k_dX0_fittingAt_0 (i := 21) rfl
theorem dX0_fittingAt_42 : decode cX0_fittingAt 42 = .ok (.aload_n 0, 1) := dk_at k_dX0_fittingAt_0 (i := 22) rfl
theorem dX0_fittingAt_43 : decode cX0_fittingAt 43 = .ok (.getfield 21, 3) := dk_at k_dX0_fittingAt_0 (i := 23) rfl
theorem dX0_fittingAt_46 : decode cX0_fittingAt 46 = .ok (.getfield 81, 3) := dk_at k_dX0_fittingAt_0 (i := 24) rfl
theorem dX0_fittingAt_49 : decode cX0_fittingAt 49 = .ok (.iload_n 3, 1) := dk_at k_dX0_fittingAt_0 (i := 25) rfl
theorem dX0_fittingAt_50 : decode cX0_fittingAt 50 = .ok (.iaload, 1) := dk_at k_dX0_fittingAt_0 (i := 26) rfl
theorem dX0_fittingAt_51 : decode cX0_fittingAt 51 = .ok (.istore 4, 2) := dk_at k_dX0_fittingAt_0 (i := 27) rfl
theorem dX0_fittingAt_53 : decode cX0_fittingAt 53 = .ok (.aload_n 0, 1) := dk_at k_dX0_fittingAt_0 (i := 28) rfl
theorem dX0_fittingAt_54 : decode cX0_fittingAt 54 = .ok (.getfield 21, 3) := dk_at k_dX0_fittingAt_0 (i := 29) rfl
theorem dX0_fittingAt_57 : decode cX0_fittingAt 57 = .ok (.getfield 84, 3) := dk_at k_dX0_fittingAt_0 (i := 30) rfl
theorem dX0_fittingAt_60 : decode cX0_fittingAt 60 = .ok (.iload_n 3, 1) := dk_at k_dX0_fittingAt_0 (i := 31) rfl
theorem k_dX0_fittingAt_61 : dk cX0_fittingAt [(61, .iaload, 1), (62, .istore 5, 2), (64, .iload 4, 2), (66, .iload_n 1, 1), (67, .if_icmp .ne 33, 3), (70, .iload 5, 2), (72, .iload_n 1, 1), (73, .if_icmp .ge 27, 3), (76, .iload_n 2, 1), (77, .aload_n 0, 1), (78, .getfield 21, 3), (81, .iload_n 3, 1), (82, .iconst 0, 1), (83, .iconst 1, 1), (84, .aload_n 0, 1), (85, .getfield 15, 3), (88, .iload 5, 2), (90, .iaload, 1), (91, .ishl, 1), (92, .invokevirtual 87, 3), (95, .iand, 1), (96, .istore_n 2, 1), (97, .goto 36, 3), (100, .iload 5, 2), (102, .iload_n 1, 1), (103, .if_icmp .ne 30, 3), (106, .iload 4, 2), (108, .iload_n 1, 1), (109, .if_icmp .ge 24, 3), (112, .iload_n 2, 1), (113, .aload_n 0, 1), (114, .getfield 21, 3)] = true := by decide +kernel
theorem dX0_fittingAt_61 : decode cX0_fittingAt 61 = .ok (.iaload, 1) := dk_at k_dX0_fittingAt_61 (i := 0) rfl
theorem dX0_fittingAt_62 : decode cX0_fittingAt 62 = .ok (.istore 5, 2) := dk_at k_dX0_fittingAt_61 (i := 1) rfl
theorem dX0_fittingAt_64 : decode cX0_fittingAt 64 = .ok (.iload 4, 2) := dk_at k_dX0_fittingAt_61 (i := 2) rfl
theorem dX0_fittingAt_66 : decode cX0_fittingAt 66 = .ok (.iload_n 1, 1) := dk_at k_dX0_fittingAt_61 (i := 3) rfl
theorem dX0_fittingAt_67 : decode cX0_fittingAt 67 = .ok (.if_icmp .ne 33, 3) := dk_at k_dX0_fittingAt_61 (i := 4) rfl
theorem dX0_fittingAt_70 : decode cX0_fittingAt 70 = .ok (.iload 5, 2) := dk_at k_dX0_fittingAt_61 (i := 5) rfl
theorem dX0_fittingAt_72 : decode cX0_fittingAt 72 = .ok (.iload_n 1, 1) := dk_at k_dX0_fittingAt_61 (i := 6) rfl
theorem dX0_fittingAt_73 : decode cX0_fittingAt 73 = .ok (.if_icmp .ge 27, 3) := dk_at k_dX0_fittingAt_61 (i := 7) rfl
theorem dX0_fittingAt_76 : decode cX0_fittingAt 76 = .ok (.iload_n 2, 1) := dk_at k_dX0_fittingAt_61 (i := 8) rfl
theorem dX0_fittingAt_77 : decode cX0_fittingAt 77 = .ok (.aload_n 0, 1) := dk_at k_dX0_fittingAt_61 (i := 9) rfl
theorem dX0_fittingAt_78 : decode cX0_fittingAt 78 = .ok (.getfield 21, 3) := dk_at k_dX0_fittingAt_61 (i := 10) rfl
theorem dX0_fittingAt_81 : decode cX0_fittingAt 81 = .ok (.iload_n 3, 1) := dk_at k_dX0_fittingAt_61 (i := 11) rfl
theorem dX0_fittingAt_82 : decode cX0_fittingAt 82 = .ok (.iconst 0, 1) := dk_at k_dX0_fittingAt_61 (i := 12) rfl
theorem dX0_fittingAt_83 : decode cX0_fittingAt 83 = .ok (.iconst 1, 1) := dk_at k_dX0_fittingAt_61 (i := 13) rfl
theorem dX0_fittingAt_84 : decode cX0_fittingAt 84 = .ok (.aload_n 0, 1) := dk_at k_dX0_fittingAt_61 (i := 14) rfl
theorem dX0_fittingAt_85 : decode cX0_fittingAt 85 = .ok (.getfield 15, 3) := dk_at k_dX0_fittingAt_61 (i := 15) rfl
theorem dX0_fittingAt_88 : decode cX0_fittingAt 88 = .ok (.iload 5, 2) := dk_at k_dX0_fittingAt_61 (i := 16) rfl
theorem dX0_fittingAt_90 : decode cX0_fittingAt 90 = .ok (.iaload, 1) := dk_at k_dX0_fittingAt_61 (i := 17) rfl
theorem dX0_fittingAt_91 : decode cX0_fittingAt 91 = .ok (.ishl, 1) := dk_at k_dX0_fittingAt_61 (i := 18) rfl
theorem dX0_fittingAt_92 : decode cX0_fittingAt 92 = .ok (.invokevirtual 87, 3) := dk_at k_dX0_fittingAt_61 (i := 19) rfl
theorem dX0_fittingAt_95 : decode cX0_fittingAt 95 = .ok (.iand, 1) := dk_at k_dX0_fittingAt_61 (i := 20) rfl
theorem dX0_fittingAt_96 : decode cX0_fittingAt 96 = .ok (.istore_n 2, 1) := dk_at k_dX0_fittingAt_61 (i := 21) rfl
theorem dX0_fittingAt_97 : decode cX0_fittingAt 97 = .ok (.goto 36, 3) := dk_at k_dX0_fittingAt_61 (i := 22) rfl
theorem dX0_fittingAt_100 : decode cX0_fittingAt 100 = .ok (.iload 5, 2) := dk_at k_dX0_fittingAt_61 (i := 23) rfl
theorem dX0_fittingAt_102 : decode cX0_fittingAt 102 = .ok (.iload_n 1, 1) := dk_at k_dX0_fittingAt_61 (i := 24) rfl
theorem dX0_fittingAt_103 : decode cX0_fittingAt 103 = .ok (.if_icmp .ne 30, 3) := dk_at k_dX0_fittingAt_61 (i := 25) rfl
theorem dX0_fittingAt_106 : decode cX0_fittingAt 106 = .ok (.iload 4, 2) := dk_at k_dX0_fittingAt_61 (i := 26) rfl
theorem dX0_fittingAt_108 : decode cX0_fittingAt 108 = .ok (.iload_n 1, 1) := dk_at k_dX0_fittingAt_61 (i := 27) rfl
theorem dX0_fittingAt_109 : decode cX0_fittingAt 109 = .ok (.if_icmp .ge 24, 3) := dk_at k_dX0_fittingAt_61 (i := 28) rfl
theorem dX0_fittingAt_112 : decode cX0_fittingAt 112 = .ok (.iload_n 2, 1) := dk_at k_dX0_fittingAt_61 (i := 29) rfl
theorem dX0_fittingAt_113 : decode cX0_fittingAt 113 = .ok (.aload_n 0, 1) := dk_at k_dX0_fittingAt_61 (i := 30) rfl
theorem dX0_fittingAt_114 : decode cX0_fittingAt 114 = .ok (.getfield 21, 3) := dk_at k_dX0_fittingAt_61 (i := 31) rfl
theorem k_dX0_fittingAt_117 : dk cX0_fittingAt [(117, .iload_n 3, 1), (118, .iconst 1, 1), (119, .iconst 1, 1), (120, .aload_n 0, 1), (121, .getfield 15, 3), (124, .iload 4, 2), (126, .iaload, 1), (127, .ishl, 1), (128, .invokevirtual 87, 3), (131, .iand, 1), (132, .istore_n 2, 1), (133, .iinc 3 1, 3), (136, .goto (-127), 3), (139, .iload_n 2, 1), (140, .ireturn, 1)] = true := by decide +kernel
theorem dX0_fittingAt_117 : decode cX0_fittingAt 117 = .ok (.iload_n 3, 1) := dk_at k_dX0_fittingAt_117 (i := 0) rfl
theorem dX0_fittingAt_118 : decode cX0_fittingAt 118 = .ok (.iconst 1, 1) := dk_at k_dX0_fittingAt_117 (i := 1) rfl
theorem dX0_fittingAt_119 : decode cX0_fittingAt 119 = .ok (.iconst 1, 1) := dk_at k_dX0_fittingAt_117 (i := 2) rfl
theorem dX0_fittingAt_120 : decode cX0_fittingAt 120 = .ok (.aload_n 0, 1) := dk_at k_dX0_fittingAt_117 (i := 3) rfl
theorem dX0_fittingAt_121 : decode cX0_fittingAt 121 = .ok (.getfield 15, 3) := dk_at k_dX0_fittingAt_117 (i := 4) rfl
theorem dX0_fittingAt_124 : decode cX0_fittingAt 124 = .ok (.iload 4, 2) := dk_at k_dX0_fittingAt_117 (i := 5) rfl
theorem dX0_fittingAt_126 : decode cX0_fittingAt 126 = .ok (.iaload, 1) := dk_at k_dX0_fittingAt_117 (i := 6) rfl
theorem dX0_fittingAt_127 : decode cX0_fittingAt 127 = .ok (.ishl, 1) := dk_at k_dX0_fittingAt_117 (i := 7) rfl
theorem dX0_fittingAt_128 : decode cX0_fittingAt 128 = .ok (.invokevirtual 87, 3) := dk_at k_dX0_fittingAt_117 (i := 8) rfl
theorem dX0_fittingAt_131 : decode cX0_fittingAt 131 = .ok (.iand, 1) := dk_at k_dX0_fittingAt_117 (i := 9) rfl
theorem dX0_fittingAt_132 : decode cX0_fittingAt 132 = .ok (.istore_n 2, 1) := dk_at k_dX0_fittingAt_117 (i := 10) rfl
theorem dX0_fittingAt_133 : decode cX0_fittingAt 133 = .ok (.iinc 3 1, 3) := dk_at k_dX0_fittingAt_117 (i := 11) rfl
theorem dX0_fittingAt_136 : decode cX0_fittingAt 136 = .ok (.goto (-127), 3) := dk_at k_dX0_fittingAt_117 (i := 12) rfl
theorem dX0_fittingAt_139 : decode cX0_fittingAt 139 = .ok (.iload_n 2, 1) := dk_at k_dX0_fittingAt_117 (i := 13) rfl
theorem dX0_fittingAt_140 : decode cX0_fittingAt 140 = .ok (.ireturn, 1) := dk_at k_dX0_fittingAt_117 (i := 14) rfl
theorem k_dX1_init_0 : dk cX1_init [(0, .aload_n 0, 1), (1, .invokespecial 3, 3), (4, .aload_n 0, 1), (5, .bipush 12, 2), (7, .iconst 5, 1), (8, .multianewarray 9 2, 4), (12, .putfield 11, 3), (15, .aload_n 0, 1), (16, .bipush 6, 2), (18, .iconst 5, 1), (19, .multianewarray 9 2, 4), (23, .putfield 16, 3), (26, .aload_n 0, 1), (27, .bipush 6, 2), (29, .newarray .int, 2), (31, .putfield 19, 3), (34, .iconst 0, 1), (35, .istore_n 1, 1), (36, .iload_n 1, 1), (37, .bipush 6, 2), (39, .if_icmp .ge 19, 3), (42, .aload_n 0, 1), (43, .getfield 16, 3), (46, .iload_n 1, 1), (47, .aaload, 1), (48, .iconst (-1), 1), (49, .invokestatic 23, 3), (52, .iinc 1 1, 3), (55, .goto (-19), 3), (58, .aload_n 0, 1), (59, .getfield 19, 3), (62, .iconst (-1), 1)] = true := by decide +kernel
theorem dX1_init_0 : decode cX1_init 0 = .ok (.aload_n 0, 1) := dk_at k_dX1_init_0 (i := 0) rfl
theorem dX1_init_1 : decode cX1_init 1 = .ok (.invokespecial 3, 3) := dk_at k_dX1_init_0 (i := 1) rfl
theorem dX1_init_4 : decode cX1_init 4 = .ok (.aload_n 0, 1) := dk_at k_dX1_init_0 (i := 2) rfl
theorem dX1_init_5 : decode cX1_init 5 = .ok (.bipush 12, 2) := dk_at k_dX1_init_0 (i := 3) rfl
theorem dX1_init_7 : decode cX1_init 7 = .ok (.iconst 5, 1) := dk_at k_dX1_init_0 (i := 4) rfl
theorem dX1_init_8 : decode cX1_init 8 = .ok (.multianewarray 9 2, 4) := dk_at k_dX1_init_0 (i := 5) rfl
theorem dX1_init_12 : decode cX1_init 12 = .ok (.putfield 11, 3) := dk_at k_dX1_init_0 (i := 6) rfl
theorem dX1_init_15 : decode cX1_init 15 = .ok (.aload_n 0, 1) := dk_at k_dX1_init_0 (i := 7) rfl
theorem dX1_init_16 : decode cX1_init 16 = .ok (.bipush 6, 2) := dk_at k_dX1_init_0 (i := 8) rfl
theorem dX1_init_18 : decode cX1_init 18 = .ok (.iconst 5, 1) := dk_at k_dX1_init_0 (i := 9) rfl
theorem dX1_init_19 : decode cX1_init 19 = .ok (.multianewarray 9 2, 4) := dk_at k_dX1_init_0 (i := 10) rfl
theorem dX1_init_23 : decode cX1_init 23 = .ok (.putfield 16, 3) := dk_at k_dX1_init_0 (i := 11) rfl
theorem dX1_init_26 : decode cX1_init 26 = .ok (.aload_n 0, 1) := dk_at k_dX1_init_0 (i := 12) rfl
theorem dX1_init_27 : decode cX1_init 27 = .ok (.bipush 6, 2) := dk_at k_dX1_init_0 (i := 13) rfl
theorem dX1_init_29 : decode cX1_init 29 = .ok (.newarray .int, 2) := dk_at k_dX1_init_0 (i := 14) rfl
theorem dX1_init_31 : decode cX1_init 31 = .ok (.putfield 19, 3) := dk_at k_dX1_init_0 (i := 15) rfl
theorem dX1_init_34 : decode cX1_init 34 = .ok (.iconst 0, 1) := dk_at k_dX1_init_0 (i := 16) rfl
theorem dX1_init_35 : decode cX1_init 35 = .ok (.istore_n 1, 1) := dk_at k_dX1_init_0 (i := 17) rfl
theorem dX1_init_36 : decode cX1_init 36 = .ok (.iload_n 1, 1) := dk_at k_dX1_init_0 (i := 18) rfl
theorem dX1_init_37 : decode cX1_init 37 = .ok (.bipush 6, 2) := dk_at k_dX1_init_0 (i := 19) rfl
theorem dX1_init_39 : decode cX1_init 39 = .ok (.if_icmp .ge 19, 3) := dk_at k_dX1_init_0 (i := 20) rfl
theorem dX1_init_42 : decode cX1_init 42 = .ok (.aload_n 0, 1) := dk_at k_dX1_init_0 (i := 21) rfl
theorem dX1_init_43 : decode cX1_init 43 = .ok (.getfield 16, 3) := dk_at k_dX1_init_0 (i := 22) rfl
theorem dX1_init_46 : decode cX1_init 46 = .ok (.iload_n 1, 1) := dk_at k_dX1_init_0 (i := 23) rfl
theorem dX1_init_47 : decode cX1_init 47 = .ok (.aaload, 1) := dk_at k_dX1_init_0 (i := 24) rfl
theorem dX1_init_48 : decode cX1_init 48 = .ok (.iconst (-1), 1) := dk_at k_dX1_init_0 (i := 25) rfl
theorem dX1_init_49 : decode cX1_init 49 = .ok (.invokestatic 23, 3) := dk_at k_dX1_init_0 (i := 26) rfl
theorem dX1_init_52 : decode cX1_init 52 = .ok (.iinc 1 1, 3) := dk_at k_dX1_init_0 (i := 27) rfl
theorem dX1_init_55 : decode cX1_init 55 = .ok (.goto (-19), 3) := dk_at k_dX1_init_0 (i := 28) rfl
theorem dX1_init_58 : decode cX1_init 58 = .ok (.aload_n 0, 1) := dk_at k_dX1_init_0 (i := 29) rfl
theorem dX1_init_59 : decode cX1_init 59 = .ok (.getfield 19, 3) := dk_at k_dX1_init_0 (i := 30) rfl
theorem dX1_init_62 : decode cX1_init 62 = .ok (.iconst (-1), 1) := dk_at k_dX1_init_0 (i := 31) rfl
theorem k_dX1_init_63 : dk cX1_init [(63, .invokestatic 23, 3), (66, .return_, 1)] = true := by decide +kernel
theorem dX1_init_63 : decode cX1_init 63 = .ok (.invokestatic 23, 3) := dk_at k_dX1_init_63 (i := 0) rfl
theorem dX1_init_66 : decode cX1_init 66 = .ok (.return_, 1) := dk_at k_dX1_init_63 (i := 1) rfl
theorem k_dX1_keep_0 : dk cX1_keep [(0, .aload_n 0, 1), (1, .getfield 29, 3), (4, .bipush 12, 2), (6, .if_icmp .lt 5, 3), (9, .iconst (-1), 1), (10, .ireturn, 1), (11, .aload_n 1, 1), (12, .iconst 0, 1), (13, .aload_n 0, 1), (14, .getfield 11, 3), (17, .aload_n 0, 1), (18, .getfield 29, 3), (21, .aaload, 1), (22, .iconst 0, 1), (23, .iconst 5, 1), (24, .invokestatic 33, 3), (27, .aload_n 0, 1), (28, .dup, 1), (29, .getfield 29, 3), (32, .iconst 1, 1), (33, .iadd, 1), (34, .putfield 29, 3), (37, .aload_n 0, 1), (38, .getfield 29, 3), (41, .iconst 1, 1), (42, .isub, 1), (43, .ireturn, 1)] = true := by decide +kernel
theorem dX1_keep_0 : decode cX1_keep 0 = .ok (.aload_n 0, 1) := dk_at k_dX1_keep_0 (i := 0) rfl
theorem dX1_keep_1 : decode cX1_keep 1 = .ok (.getfield 29, 3) := dk_at k_dX1_keep_0 (i := 1) rfl
theorem dX1_keep_4 : decode cX1_keep 4 = .ok (.bipush 12, 2) := dk_at k_dX1_keep_0 (i := 2) rfl
theorem dX1_keep_6 : decode cX1_keep 6 = .ok (.if_icmp .lt 5, 3) := dk_at k_dX1_keep_0 (i := 3) rfl
theorem dX1_keep_9 : decode cX1_keep 9 = .ok (.iconst (-1), 1) := dk_at k_dX1_keep_0 (i := 4) rfl
theorem dX1_keep_10 : decode cX1_keep 10 = .ok (.ireturn, 1) := dk_at k_dX1_keep_0 (i := 5) rfl
theorem dX1_keep_11 : decode cX1_keep 11 = .ok (.aload_n 1, 1) := dk_at k_dX1_keep_0 (i := 6) rfl
theorem dX1_keep_12 : decode cX1_keep 12 = .ok (.iconst 0, 1) := dk_at k_dX1_keep_0 (i := 7) rfl
theorem dX1_keep_13 : decode cX1_keep 13 = .ok (.aload_n 0, 1) := dk_at k_dX1_keep_0 (i := 8) rfl
theorem dX1_keep_14 : decode cX1_keep 14 = .ok (.getfield 11, 3) := dk_at k_dX1_keep_0 (i := 9) rfl
theorem dX1_keep_17 : decode cX1_keep 17 = .ok (.aload_n 0, 1) := dk_at k_dX1_keep_0 (i := 10) rfl
theorem dX1_keep_18 : decode cX1_keep 18 = .ok (.getfield 29, 3) := dk_at k_dX1_keep_0 (i := 11) rfl
theorem dX1_keep_21 : decode cX1_keep 21 = .ok (.aaload, 1) := dk_at k_dX1_keep_0 (i := 12) rfl
theorem dX1_keep_22 : decode cX1_keep 22 = .ok (.iconst 0, 1) := dk_at k_dX1_keep_0 (i := 13) rfl
theorem dX1_keep_23 : decode cX1_keep 23 = .ok (.iconst 5, 1) := dk_at k_dX1_keep_0 (i := 14) rfl
theorem dX1_keep_24 : decode cX1_keep 24 = .ok (.invokestatic 33, 3) := dk_at k_dX1_keep_0 (i := 15) rfl
theorem dX1_keep_27 : decode cX1_keep 27 = .ok (.aload_n 0, 1) := dk_at k_dX1_keep_0 (i := 16) rfl
theorem dX1_keep_28 : decode cX1_keep 28 = .ok (.dup, 1) := dk_at k_dX1_keep_0 (i := 17) rfl
theorem dX1_keep_29 : decode cX1_keep 29 = .ok (.getfield 29, 3) := dk_at k_dX1_keep_0 (i := 18) rfl
theorem dX1_keep_32 : decode cX1_keep 32 = .ok (.iconst 1, 1) := dk_at k_dX1_keep_0 (i := 19) rfl
theorem dX1_keep_33 : decode cX1_keep 33 = .ok (.iadd, 1) := dk_at k_dX1_keep_0 (i := 20) rfl
theorem dX1_keep_34 : decode cX1_keep 34 = .ok (.putfield 29, 3) := dk_at k_dX1_keep_0 (i := 21) rfl
theorem dX1_keep_37 : decode cX1_keep 37 = .ok (.aload_n 0, 1) := dk_at k_dX1_keep_0 (i := 22) rfl
theorem dX1_keep_38 : decode cX1_keep 38 = .ok (.getfield 29, 3) := dk_at k_dX1_keep_0 (i := 23) rfl
theorem dX1_keep_41 : decode cX1_keep 41 = .ok (.iconst 1, 1) := dk_at k_dX1_keep_0 (i := 24) rfl
theorem dX1_keep_42 : decode cX1_keep 42 = .ok (.isub, 1) := dk_at k_dX1_keep_0 (i := 25) rfl
theorem dX1_keep_43 : decode cX1_keep 43 = .ok (.ireturn, 1) := dk_at k_dX1_keep_0 (i := 26) rfl
theorem k_dX1_bring_0 : dk cX1_bring [(0, .aload_n 0, 1), (1, .getfield 19, 3), (4, .iload_n 1, 1), (5, .iaload, 1), (6, .iload_n 2, 1), (7, .if_icmp .ne 11, 3), (10, .aload_n 0, 1), (11, .iload_n 1, 1), (12, .invokevirtual 39, 3), (15, .ifCond .eq 7, 3), (18, .iconst 1, 1), (19, .goto 4, 3), (22, .iconst 0, 1), (23, .istore_n 3, 1), (24, .aload_n 0, 1), (25, .getfield 19, 3), (28, .iload_n 1, 1), (29, .iload_n 2, 1), (30, .iastore, 1), (31, .aload_n 0, 1), (32, .getfield 11, 3), (35, .iload_n 2, 1), (36, .aaload, 1), (37, .iconst 0, 1), (38, .aload_n 0, 1), (39, .getfield 16, 3), (42, .iload_n 1, 1), (43, .aaload, 1), (44, .iconst 0, 1), (45, .iconst 5, 1), (46, .invokestatic 33, 3), (49, .iload_n 3, 1)] = true := by decide +kernel
theorem dX1_bring_0 : decode cX1_bring 0 = .ok (.aload_n 0, 1) := dk_at k_dX1_bring_0 (i := 0) rfl
theorem dX1_bring_1 : decode cX1_bring 1 = .ok (.getfield 19, 3) := dk_at k_dX1_bring_0 (i := 1) rfl
theorem dX1_bring_4 : decode cX1_bring 4 = .ok (.iload_n 1, 1) := dk_at k_dX1_bring_0 (i := 2) rfl
theorem dX1_bring_5 : decode cX1_bring 5 = .ok (.iaload, 1) := dk_at k_dX1_bring_0 (i := 3) rfl
theorem dX1_bring_6 : decode cX1_bring 6 = .ok (.iload_n 2, 1) := dk_at k_dX1_bring_0 (i := 4) rfl
theorem dX1_bring_7 : decode cX1_bring 7 = .ok (.if_icmp .ne 11, 3) := dk_at k_dX1_bring_0 (i := 5) rfl
theorem dX1_bring_10 : decode cX1_bring 10 = .ok (.aload_n 0, 1) := dk_at k_dX1_bring_0 (i := 6) rfl
theorem dX1_bring_11 : decode cX1_bring 11 = .ok (.iload_n 1, 1) := dk_at k_dX1_bring_0 (i := 7) rfl
theorem dX1_bring_12 : decode cX1_bring 12 = .ok (.invokevirtual 39, 3) := dk_at k_dX1_bring_0 (i := 8) rfl
theorem dX1_bring_15 : decode cX1_bring 15 = .ok (.ifCond .eq 7, 3) := dk_at k_dX1_bring_0 (i := 9) rfl
theorem dX1_bring_18 : decode cX1_bring 18 = .ok (.iconst 1, 1) := dk_at k_dX1_bring_0 (i := 10) rfl
theorem dX1_bring_19 : decode cX1_bring 19 = .ok (.goto 4, 3) := dk_at k_dX1_bring_0 (i := 11) rfl
theorem dX1_bring_22 : decode cX1_bring 22 = .ok (.iconst 0, 1) := dk_at k_dX1_bring_0 (i := 12) rfl
theorem dX1_bring_23 : decode cX1_bring 23 = .ok (.istore_n 3, 1) := dk_at k_dX1_bring_0 (i := 13) rfl
theorem dX1_bring_24 : decode cX1_bring 24 = .ok (.aload_n 0, 1) := dk_at k_dX1_bring_0 (i := 14) rfl
theorem dX1_bring_25 : decode cX1_bring 25 = .ok (.getfield 19, 3) := dk_at k_dX1_bring_0 (i := 15) rfl
theorem dX1_bring_28 : decode cX1_bring 28 = .ok (.iload_n 1, 1) := dk_at k_dX1_bring_0 (i := 16) rfl
theorem dX1_bring_29 : decode cX1_bring 29 = .ok (.iload_n 2, 1) := dk_at k_dX1_bring_0 (i := 17) rfl
theorem dX1_bring_30 : decode cX1_bring 30 = .ok (.iastore, 1) := dk_at k_dX1_bring_0 (i := 18) rfl
theorem dX1_bring_31 : decode cX1_bring 31 = .ok (.aload_n 0, 1) := dk_at k_dX1_bring_0 (i := 19) rfl
theorem dX1_bring_32 : decode cX1_bring 32 = .ok (.getfield 11, 3) := dk_at k_dX1_bring_0 (i := 20) rfl
theorem dX1_bring_35 : decode cX1_bring 35 = .ok (.iload_n 2, 1) := dk_at k_dX1_bring_0 (i := 21) rfl
theorem dX1_bring_36 : decode cX1_bring 36 = .ok (.aaload, 1) := dk_at k_dX1_bring_0 (i := 22) rfl
theorem dX1_bring_37 : decode cX1_bring 37 = .ok (.iconst 0, 1) := dk_at k_dX1_bring_0 (i := 23) rfl
theorem dX1_bring_38 : decode cX1_bring 38 = .ok (.aload_n 0, 1) := dk_at k_dX1_bring_0 (i := 24) rfl
theorem dX1_bring_39 : decode cX1_bring 39 = .ok (.getfield 16, 3) := dk_at k_dX1_bring_0 (i := 25) rfl
theorem dX1_bring_42 : decode cX1_bring 42 = .ok (.iload_n 1, 1) := dk_at k_dX1_bring_0 (i := 26) rfl
theorem dX1_bring_43 : decode cX1_bring 43 = .ok (.aaload, 1) := dk_at k_dX1_bring_0 (i := 27) rfl
theorem dX1_bring_44 : decode cX1_bring 44 = .ok (.iconst 0, 1) := dk_at k_dX1_bring_0 (i := 28) rfl
theorem dX1_bring_45 : decode cX1_bring 45 = .ok (.iconst 5, 1) := dk_at k_dX1_bring_0 (i := 29) rfl
theorem dX1_bring_46 : decode cX1_bring 46 = .ok (.invokestatic 33, 3) := dk_at k_dX1_bring_0 (i := 30) rfl
theorem dX1_bring_49 : decode cX1_bring 49 = .ok (.iload_n 3, 1) := dk_at k_dX1_bring_0 (i := 31) rfl
theorem dX1_bring_50 : decode cX1_bring 50 = .ok (.ireturn, 1) := by decide +kernel
theorem k_dX1_drifts_0 : dk cX1_drifts [(0, .aload_n 0, 1), (1, .getfield 19, 3), (4, .iload_n 1, 1), (5, .iaload, 1), (6, .istore_n 3, 1), (7, .iload_n 3, 1), (8, .ifCond .lt 34, 3), (11, .iload_n 3, 1), (12, .aload_n 0, 1), (13, .getfield 29, 3), (16, .if_icmp .ge 26, 3), (19, .aload_n 0, 1), (20, .getfield 16, 3), (23, .iload_n 1, 1), (24, .aaload, 1), (25, .iload_n 2, 1), (26, .iaload, 1), (27, .aload_n 0, 1), (28, .getfield 11, 3), (31, .iload_n 3, 1), (32, .aaload, 1), (33, .iload_n 2, 1), (34, .iaload, 1), (35, .if_icmp .eq 7, 3), (38, .iconst 1, 1), (39, .goto 4, 3), (42, .iconst 0, 1), (43, .ireturn, 1)] = true := by decide +kernel
theorem dX1_drifts_0 : decode cX1_drifts 0 = .ok (.aload_n 0, 1) := dk_at k_dX1_drifts_0 (i := 0) rfl
theorem dX1_drifts_1 : decode cX1_drifts 1 = .ok (.getfield 19, 3) := dk_at k_dX1_drifts_0 (i := 1) rfl
theorem dX1_drifts_4 : decode cX1_drifts 4 = .ok (.iload_n 1, 1) := dk_at k_dX1_drifts_0 (i := 2) rfl
theorem dX1_drifts_5 : decode cX1_drifts 5 = .ok (.iaload, 1) := dk_at k_dX1_drifts_0 (i := 3) rfl
theorem dX1_drifts_6 : decode cX1_drifts 6 = .ok (.istore_n 3, 1) := dk_at k_dX1_drifts_0 (i := 4) rfl
theorem dX1_drifts_7 : decode cX1_drifts 7 = .ok (.iload_n 3, 1) := dk_at k_dX1_drifts_0 (i := 5) rfl
theorem dX1_drifts_8 : decode cX1_drifts 8 = .ok (.ifCond .lt 34, 3) := dk_at k_dX1_drifts_0 (i := 6) rfl
theorem dX1_drifts_11 : decode cX1_drifts 11 = .ok (.iload_n 3, 1) := dk_at k_dX1_drifts_0 (i := 7) rfl
theorem dX1_drifts_12 : decode cX1_drifts 12 = .ok (.aload_n 0, 1) := dk_at k_dX1_drifts_0 (i := 8) rfl
theorem dX1_drifts_13 : decode cX1_drifts 13 = .ok (.getfield 29, 3) := dk_at k_dX1_drifts_0 (i := 9) rfl
theorem dX1_drifts_16 : decode cX1_drifts 16 = .ok (.if_icmp .ge 26, 3) := dk_at k_dX1_drifts_0 (i := 10) rfl
theorem dX1_drifts_19 : decode cX1_drifts 19 = .ok (.aload_n 0, 1) := dk_at k_dX1_drifts_0 (i := 11) rfl
theorem dX1_drifts_20 : decode cX1_drifts 20 = .ok (.getfield 16, 3) := dk_at k_dX1_drifts_0 (i := 12) rfl
theorem dX1_drifts_23 : decode cX1_drifts 23 = .ok (.iload_n 1, 1) := dk_at k_dX1_drifts_0 (i := 13) rfl
theorem dX1_drifts_24 : decode cX1_drifts 24 = .ok (.aaload, 1) := dk_at k_dX1_drifts_0 (i := 14) rfl
theorem dX1_drifts_25 : decode cX1_drifts 25 = .ok (.iload_n 2, 1) := dk_at k_dX1_drifts_0 (i := 15) rfl
theorem dX1_drifts_26 : decode cX1_drifts 26 = .ok (.iaload, 1) := dk_at k_dX1_drifts_0 (i := 16) rfl
theorem dX1_drifts_27 : decode cX1_drifts 27 = .ok (.aload_n 0, 1) := dk_at k_dX1_drifts_0 (i := 17) rfl
theorem dX1_drifts_28 : decode cX1_drifts 28 = .ok (.getfield 11, 3) := dk_at k_dX1_drifts_0 (i := 18) rfl
theorem dX1_drifts_31 : decode cX1_drifts 31 = .ok (.iload_n 3, 1) := dk_at k_dX1_drifts_0 (i := 19) rfl
theorem dX1_drifts_32 : decode cX1_drifts 32 = .ok (.aaload, 1) := dk_at k_dX1_drifts_0 (i := 20) rfl
theorem dX1_drifts_33 : decode cX1_drifts 33 = .ok (.iload_n 2, 1) := dk_at k_dX1_drifts_0 (i := 21) rfl
theorem dX1_drifts_34 : decode cX1_drifts 34 = .ok (.iaload, 1) := dk_at k_dX1_drifts_0 (i := 22) rfl
theorem dX1_drifts_35 : decode cX1_drifts 35 = .ok (.if_icmp .eq 7, 3) := dk_at k_dX1_drifts_0 (i := 23) rfl
theorem dX1_drifts_38 : decode cX1_drifts 38 = .ok (.iconst 1, 1) := dk_at k_dX1_drifts_0 (i := 24) rfl
theorem dX1_drifts_39 : decode cX1_drifts 39 = .ok (.goto 4, 3) := dk_at k_dX1_drifts_0 (i := 25) rfl
theorem dX1_drifts_42 : decode cX1_drifts 42 = .ok (.iconst 0, 1) := dk_at k_dX1_drifts_0 (i := 26) rfl
theorem dX1_drifts_43 : decode cX1_drifts 43 = .ok (.ireturn, 1) := dk_at k_dX1_drifts_0 (i := 27) rfl
theorem k_dX1_drifting_0 : dk cX1_drifting [(0, .iconst 0, 1), (1, .istore_n 2, 1), (2, .iconst 0, 1), (3, .istore_n 3, 1), (4, .iload_n 3, 1), (5, .iconst 5, 1), (6, .if_icmp .ge 24, 3), (9, .aload_n 0, 1), (10, .iload_n 1, 1), (11, .iload_n 3, 1), (12, .invokevirtual 43, 3), (15, .ifCond .eq 9, 3), (18, .iload_n 2, 1), (19, .iconst 1, 1), (20, .iload_n 3, 1), (21, .ishl, 1), (22, .ior, 1), (23, .istore_n 2, 1), (24, .iinc 3 1, 3), (27, .goto (-23), 3), (30, .iload_n 2, 1), (31, .ireturn, 1)] = true := by decide +kernel
theorem dX1_drifting_0 : decode cX1_drifting 0 = .ok (.iconst 0, 1) := dk_at k_dX1_drifting_0 (i := 0) rfl
theorem dX1_drifting_1 : decode cX1_drifting 1 = .ok (.istore_n 2, 1) := dk_at k_dX1_drifting_0 (i := 1) rfl
theorem dX1_drifting_2 : decode cX1_drifting 2 = .ok (.iconst 0, 1) := dk_at k_dX1_drifting_0 (i := 2) rfl
theorem dX1_drifting_3 : decode cX1_drifting 3 = .ok (.istore_n 3, 1) := dk_at k_dX1_drifting_0 (i := 3) rfl
theorem dX1_drifting_4 : decode cX1_drifting 4 = .ok (.iload_n 3, 1) := dk_at k_dX1_drifting_0 (i := 4) rfl
theorem dX1_drifting_5 : decode cX1_drifting 5 = .ok (.iconst 5, 1) := dk_at k_dX1_drifting_0 (i := 5) rfl
theorem dX1_drifting_6 : decode cX1_drifting 6 = .ok (.if_icmp .ge 24, 3) := dk_at k_dX1_drifting_0 (i := 6) rfl
theorem dX1_drifting_9 : decode cX1_drifting 9 = .ok (.aload_n 0, 1) := dk_at k_dX1_drifting_0 (i := 7) rfl
theorem dX1_drifting_10 : decode cX1_drifting 10 = .ok (.iload_n 1, 1) := dk_at k_dX1_drifting_0 (i := 8) rfl
theorem dX1_drifting_11 : decode cX1_drifting 11 = .ok (.iload_n 3, 1) := dk_at k_dX1_drifting_0 (i := 9) rfl
theorem dX1_drifting_12 : decode cX1_drifting 12 = .ok (.invokevirtual 43, 3) := dk_at k_dX1_drifting_0 (i := 10) rfl
theorem dX1_drifting_15 : decode cX1_drifting 15 = .ok (.ifCond .eq 9, 3) := dk_at k_dX1_drifting_0 (i := 11) rfl
theorem dX1_drifting_18 : decode cX1_drifting 18 = .ok (.iload_n 2, 1) := dk_at k_dX1_drifting_0 (i := 12) rfl
theorem dX1_drifting_19 : decode cX1_drifting 19 = .ok (.iconst 1, 1) := dk_at k_dX1_drifting_0 (i := 13) rfl
theorem dX1_drifting_20 : decode cX1_drifting 20 = .ok (.iload_n 3, 1) := dk_at k_dX1_drifting_0 (i := 14) rfl
theorem dX1_drifting_21 : decode cX1_drifting 21 = .ok (.ishl, 1) := dk_at k_dX1_drifting_0 (i := 15) rfl
theorem dX1_drifting_22 : decode cX1_drifting 22 = .ok (.ior, 1) := dk_at k_dX1_drifting_0 (i := 16) rfl
theorem dX1_drifting_23 : decode cX1_drifting 23 = .ok (.istore_n 2, 1) := dk_at k_dX1_drifting_0 (i := 17) rfl
theorem dX1_drifting_24 : decode cX1_drifting 24 = .ok (.iinc 3 1, 3) := dk_at k_dX1_drifting_0 (i := 18) rfl
theorem dX1_drifting_27 : decode cX1_drifting 27 = .ok (.goto (-23), 3) := dk_at k_dX1_drifting_0 (i := 19) rfl
theorem dX1_drifting_30 : decode cX1_drifting 30 = .ok (.iload_n 2, 1) := dk_at k_dX1_drifting_0 (i := 20) rfl
theorem dX1_drifting_31 : decode cX1_drifting 31 = .ok (.ireturn, 1) := dk_at k_dX1_drifting_0 (i := 21) rfl
theorem k_dX1_driftingMachines_0 : dk cX1_driftingMachines [(0, .iconst 0, 1), (1, .istore_n 1, 1), (2, .iconst 0, 1), (3, .istore_n 2, 1), (4, .iload_n 2, 1), (5, .bipush 6, 2), (7, .if_icmp .ge 20, 3), (10, .aload_n 0, 1), (11, .iload_n 2, 1), (12, .invokevirtual 39, 3), (15, .ifCond .eq 6, 3), (18, .iinc 1 1, 3), (21, .iinc 2 1, 3), (24, .goto (-20), 3), (27, .iload_n 1, 1), (28, .ireturn, 1)] = true := by decide +kernel
theorem dX1_driftingMachines_0 : decode cX1_driftingMachines 0 = .ok (.iconst 0, 1) := dk_at k_dX1_driftingMachines_0 (i := 0) rfl
theorem dX1_driftingMachines_1 : decode cX1_driftingMachines 1 = .ok (.istore_n 1, 1) := dk_at k_dX1_driftingMachines_0 (i := 1) rfl
theorem dX1_driftingMachines_2 : decode cX1_driftingMachines 2 = .ok (.iconst 0, 1) := dk_at k_dX1_driftingMachines_0 (i := 2) rfl
theorem dX1_driftingMachines_3 : decode cX1_driftingMachines 3 = .ok (.istore_n 2, 1) := dk_at k_dX1_driftingMachines_0 (i := 3) rfl
theorem dX1_driftingMachines_4 : decode cX1_driftingMachines 4 = .ok (.iload_n 2, 1) := dk_at k_dX1_driftingMachines_0 (i := 4) rfl
theorem dX1_driftingMachines_5 : decode cX1_driftingMachines 5 = .ok (.bipush 6, 2) := dk_at k_dX1_driftingMachines_0 (i := 5) rfl
theorem dX1_driftingMachines_7 : decode cX1_driftingMachines 7 = .ok (.if_icmp .ge 20, 3) := dk_at k_dX1_driftingMachines_0 (i := 6) rfl
theorem dX1_driftingMachines_10 : decode cX1_driftingMachines 10 = .ok (.aload_n 0, 1) := dk_at k_dX1_driftingMachines_0 (i := 7) rfl
theorem dX1_driftingMachines_11 : decode cX1_driftingMachines 11 = .ok (.iload_n 2, 1) := dk_at k_dX1_driftingMachines_0 (i := 8) rfl
theorem dX1_driftingMachines_12 : decode cX1_driftingMachines 12 = .ok (.invokevirtual 39, 3) := dk_at k_dX1_driftingMachines_0 (i := 9) rfl
theorem dX1_driftingMachines_15 : decode cX1_driftingMachines 15 = .ok (.ifCond .eq 6, 3) := dk_at k_dX1_driftingMachines_0 (i := 10) rfl
theorem dX1_driftingMachines_18 : decode cX1_driftingMachines 18 = .ok (.iinc 1 1, 3) := dk_at k_dX1_driftingMachines_0 (i := 11) rfl
theorem dX1_driftingMachines_21 : decode cX1_driftingMachines 21 = .ok (.iinc 2 1, 3) := dk_at k_dX1_driftingMachines_0 (i := 12) rfl
theorem dX1_driftingMachines_24 : decode cX1_driftingMachines 24 = .ok (.goto (-20), 3) := dk_at k_dX1_driftingMachines_0 (i := 13) rfl
theorem dX1_driftingMachines_27 : decode cX1_driftingMachines 27 = .ok (.iload_n 1, 1) := dk_at k_dX1_driftingMachines_0 (i := 14) rfl
theorem dX1_driftingMachines_28 : decode cX1_driftingMachines 28 = .ok (.ireturn, 1) := dk_at k_dX1_driftingMachines_0 (i := 15) rfl
theorem k_dX1_find_0 : dk cX1_find [(0, .iconst 1, 1), (1, .istore_n 2, 1), (2, .iload_n 2, 1), (3, .aload_n 0, 1), (4, .getfield 29, 3), (7, .if_icmp .ge 32, 3), (10, .aload_n 0, 1), (11, .getfield 11, 3), (14, .iload_n 2, 1), (15, .aaload, 1), (16, .iload_n 1, 1), (17, .iaload, 1), (18, .aload_n 0, 1), (19, .getfield 11, 3), (22, .iload_n 2, 1), (23, .iconst 1, 1), (24, .isub, 1), (25, .aaload, 1), (26, .iload_n 1, 1), (27, .iaload, 1), (28, .if_icmp .eq 5, 3), (31, .iload_n 2, 1), (32, .ireturn, 1), (33, .iinc 2 1, 3), (36, .goto (-34), 3), (39, .iconst (-1), 1), (40, .ireturn, 1)] = true := by decide +kernel
theorem dX1_find_0 : decode cX1_find 0 = .ok (.iconst 1, 1) := dk_at k_dX1_find_0 (i := 0) rfl
theorem dX1_find_1 : decode cX1_find 1 = .ok (.istore_n 2, 1) := dk_at k_dX1_find_0 (i := 1) rfl
theorem dX1_find_2 : decode cX1_find 2 = .ok (.iload_n 2, 1) := dk_at k_dX1_find_0 (i := 2) rfl
theorem dX1_find_3 : decode cX1_find 3 = .ok (.aload_n 0, 1) := dk_at k_dX1_find_0 (i := 3) rfl
theorem dX1_find_4 : decode cX1_find 4 = .ok (.getfield 29, 3) := dk_at k_dX1_find_0 (i := 4) rfl
theorem dX1_find_7 : decode cX1_find 7 = .ok (.if_icmp .ge 32, 3) := dk_at k_dX1_find_0 (i := 5) rfl
theorem dX1_find_10 : decode cX1_find 10 = .ok (.aload_n 0, 1) := dk_at k_dX1_find_0 (i := 6) rfl
theorem dX1_find_11 : decode cX1_find 11 = .ok (.getfield 11, 3) := dk_at k_dX1_find_0 (i := 7) rfl
theorem dX1_find_14 : decode cX1_find 14 = .ok (.iload_n 2, 1) := dk_at k_dX1_find_0 (i := 8) rfl
theorem dX1_find_15 : decode cX1_find 15 = .ok (.aaload, 1) := dk_at k_dX1_find_0 (i := 9) rfl
theorem dX1_find_16 : decode cX1_find 16 = .ok (.iload_n 1, 1) := dk_at k_dX1_find_0 (i := 10) rfl
theorem dX1_find_17 : decode cX1_find 17 = .ok (.iaload, 1) := dk_at k_dX1_find_0 (i := 11) rfl
theorem dX1_find_18 : decode cX1_find 18 = .ok (.aload_n 0, 1) := dk_at k_dX1_find_0 (i := 12) rfl
theorem dX1_find_19 : decode cX1_find 19 = .ok (.getfield 11, 3) := dk_at k_dX1_find_0 (i := 13) rfl
theorem dX1_find_22 : decode cX1_find 22 = .ok (.iload_n 2, 1) := dk_at k_dX1_find_0 (i := 14) rfl
theorem dX1_find_23 : decode cX1_find 23 = .ok (.iconst 1, 1) := dk_at k_dX1_find_0 (i := 15) rfl
theorem dX1_find_24 : decode cX1_find 24 = .ok (.isub, 1) := dk_at k_dX1_find_0 (i := 16) rfl
theorem dX1_find_25 : decode cX1_find 25 = .ok (.aaload, 1) := dk_at k_dX1_find_0 (i := 17) rfl
theorem dX1_find_26 : decode cX1_find 26 = .ok (.iload_n 1, 1) := dk_at k_dX1_find_0 (i := 18) rfl
theorem dX1_find_27 : decode cX1_find 27 = .ok (.iaload, 1) := dk_at k_dX1_find_0 (i := 19) rfl
theorem dX1_find_28 : decode cX1_find 28 = .ok (.if_icmp .eq 5, 3) := dk_at k_dX1_find_0 (i := 20) rfl
theorem dX1_find_31 : decode cX1_find 31 = .ok (.iload_n 2, 1) := dk_at k_dX1_find_0 (i := 21) rfl
theorem dX1_find_32 : decode cX1_find 32 = .ok (.ireturn, 1) := dk_at k_dX1_find_0 (i := 22) rfl
theorem dX1_find_33 : decode cX1_find 33 = .ok (.iinc 2 1, 3) := dk_at k_dX1_find_0 (i := 23) rfl
theorem dX1_find_36 : decode cX1_find 36 = .ok (.goto (-34), 3) := dk_at k_dX1_find_0 (i := 24) rfl
theorem dX1_find_39 : decode cX1_find 39 = .ok (.iconst (-1), 1) := dk_at k_dX1_find_0 (i := 25) rfl
theorem dX1_find_40 : decode cX1_find 40 = .ok (.ireturn, 1) := dk_at k_dX1_find_0 (i := 26) rfl
theorem k_dX2_init_0 : dk cX2_init [(0, .aload_n 0, 1), (1, .invokespecial 3, 3), (4, .aload_n 0, 1), (5, .iconst 5, 1), (6, .newarray .int, 2), (8, .putfield 9, 3), (11, .aload_n 0, 1), (12, .iconst 5, 1), (13, .newarray .int, 2), (15, .putfield 15, 3), (18, .aload_n 0, 1), (19, .bipush 30, 2), (21, .newarray .int, 2), (23, .putfield 18, 3), (26, .aload_n 0, 1), (27, .bipush 30, 2), (29, .newarray .int, 2), (31, .putfield 21, 3), (34, .aload_n 0, 1), (35, .bipush 30, 2), (37, .newarray .int, 2), (39, .putfield 24, 3), (42, .aload_n 0, 1), (43, .bipush 30, 2), (45, .newarray .int, 2), (47, .putfield 27, 3), (50, .aload_n 0, 1), (51, .bipush 30, 2), (53, .newarray .int, 2), (55, .putfield 30, 3), (58, .aload_n 0, 1), (59, .bipush 30, 2)] = true := by decide +kernel
theorem dX2_init_0 : decode cX2_init 0 = .ok (.aload_n 0, 1) := dk_at k_dX2_init_0 (i := 0) rfl
theorem dX2_init_1 : decode cX2_init 1 = .ok (.invokespecial 3, 3) := dk_at k_dX2_init_0 (i := 1) rfl
theorem dX2_init_4 : decode cX2_init 4 = .ok (.aload_n 0, 1) := dk_at k_dX2_init_0 (i := 2) rfl
theorem dX2_init_5 : decode cX2_init 5 = .ok (.iconst 5, 1) := dk_at k_dX2_init_0 (i := 3) rfl
theorem dX2_init_6 : decode cX2_init 6 = .ok (.newarray .int, 2) := dk_at k_dX2_init_0 (i := 4) rfl
theorem dX2_init_8 : decode cX2_init 8 = .ok (.putfield 9, 3) := dk_at k_dX2_init_0 (i := 5) rfl
theorem dX2_init_11 : decode cX2_init 11 = .ok (.aload_n 0, 1) := dk_at k_dX2_init_0 (i := 6) rfl
theorem dX2_init_12 : decode cX2_init 12 = .ok (.iconst 5, 1) := dk_at k_dX2_init_0 (i := 7) rfl
theorem dX2_init_13 : decode cX2_init 13 = .ok (.newarray .int, 2) := dk_at k_dX2_init_0 (i := 8) rfl
theorem dX2_init_15 : decode cX2_init 15 = .ok (.putfield 15, 3) := dk_at k_dX2_init_0 (i := 9) rfl
theorem dX2_init_18 : decode cX2_init 18 = .ok (.aload_n 0, 1) := dk_at k_dX2_init_0 (i := 10) rfl
theorem dX2_init_19 : decode cX2_init 19 = .ok (.bipush 30, 2) := dk_at k_dX2_init_0 (i := 11) rfl
theorem dX2_init_21 : decode cX2_init 21 = .ok (.newarray .int, 2) := dk_at k_dX2_init_0 (i := 12) rfl
theorem dX2_init_23 : decode cX2_init 23 = .ok (.putfield 18, 3) := dk_at k_dX2_init_0 (i := 13) rfl
theorem dX2_init_26 : decode cX2_init 26 = .ok (.aload_n 0, 1) := dk_at k_dX2_init_0 (i := 14) rfl
theorem dX2_init_27 : decode cX2_init 27 = .ok (.bipush 30, 2) := dk_at k_dX2_init_0 (i := 15) rfl
theorem dX2_init_29 : decode cX2_init 29 = .ok (.newarray .int, 2) := dk_at k_dX2_init_0 (i := 16) rfl
theorem dX2_init_31 : decode cX2_init 31 = .ok (.putfield 21, 3) := dk_at k_dX2_init_0 (i := 17) rfl
theorem dX2_init_34 : decode cX2_init 34 = .ok (.aload_n 0, 1) := dk_at k_dX2_init_0 (i := 18) rfl
theorem dX2_init_35 : decode cX2_init 35 = .ok (.bipush 30, 2) := dk_at k_dX2_init_0 (i := 19) rfl
theorem dX2_init_37 : decode cX2_init 37 = .ok (.newarray .int, 2) := dk_at k_dX2_init_0 (i := 20) rfl
theorem dX2_init_39 : decode cX2_init 39 = .ok (.putfield 24, 3) := dk_at k_dX2_init_0 (i := 21) rfl
theorem dX2_init_42 : decode cX2_init 42 = .ok (.aload_n 0, 1) := dk_at k_dX2_init_0 (i := 22) rfl
theorem dX2_init_43 : decode cX2_init 43 = .ok (.bipush 30, 2) := dk_at k_dX2_init_0 (i := 23) rfl
theorem dX2_init_45 : decode cX2_init 45 = .ok (.newarray .int, 2) := dk_at k_dX2_init_0 (i := 24) rfl
theorem dX2_init_47 : decode cX2_init 47 = .ok (.putfield 27, 3) := dk_at k_dX2_init_0 (i := 25) rfl
theorem dX2_init_50 : decode cX2_init 50 = .ok (.aload_n 0, 1) := dk_at k_dX2_init_0 (i := 26) rfl
theorem dX2_init_51 : decode cX2_init 51 = .ok (.bipush 30, 2) := dk_at k_dX2_init_0 (i := 27) rfl
theorem dX2_init_53 : decode cX2_init 53 = .ok (.newarray .int, 2) := dk_at k_dX2_init_0 (i := 28) rfl
theorem dX2_init_55 : decode cX2_init 55 = .ok (.putfield 30, 3) := dk_at k_dX2_init_0 (i := 29) rfl
theorem dX2_init_58 : decode cX2_init 58 = .ok (.aload_n 0, 1) := dk_at k_dX2_init_0 (i := 30) rfl
theorem dX2_init_59 : decode cX2_init 59 = .ok (.bipush 30, 2) := dk_at k_dX2_init_0 (i := 31) rfl
theorem k_dX2_init_61 : dk cX2_init [(61, .newarray .boolean, 2), (63, .putfield 33, 3), (66, .aload_n 0, 1), (67, .bipush 30, 2), (69, .newarray .boolean, 2), (71, .putfield 37, 3), (74, .return_, 1)] = true := by decide +kernel
theorem dX2_init_61 : decode cX2_init 61 = .ok (.newarray .boolean, 2) := dk_at k_dX2_init_61 (i := 0) rfl
theorem dX2_init_63 : decode cX2_init 63 = .ok (.putfield 33, 3) := dk_at k_dX2_init_61 (i := 1) rfl
theorem dX2_init_66 : decode cX2_init 66 = .ok (.aload_n 0, 1) := dk_at k_dX2_init_61 (i := 2) rfl
theorem dX2_init_67 : decode cX2_init 67 = .ok (.bipush 30, 2) := dk_at k_dX2_init_61 (i := 3) rfl
theorem dX2_init_69 : decode cX2_init 69 = .ok (.newarray .boolean, 2) := dk_at k_dX2_init_61 (i := 4) rfl
theorem dX2_init_71 : decode cX2_init 71 = .ok (.putfield 37, 3) := dk_at k_dX2_init_61 (i := 5) rfl
theorem dX2_init_74 : decode cX2_init 74 = .ok (.return_, 1) := dk_at k_dX2_init_61 (i := 6) rfl
theorem k_dX2_makeField_0 : dk cX2_makeField [(0, .aload_n 0, 1), (1, .getfield 40, 3), (4, .iconst 5, 1), (5, .if_icmp .lt 5, 3), (8, .iconst (-1), 1), (9, .ireturn, 1), (10, .aload_n 0, 1), (11, .getfield 9, 3), (14, .aload_n 0, 1), (15, .getfield 40, 3), (18, .iload_n 1, 1), (19, .iastore, 1), (20, .aload_n 0, 1), (21, .getfield 15, 3), (24, .aload_n 0, 1), (25, .getfield 40, 3), (28, .iconst 1, 1), (29, .iastore, 1), (30, .aload_n 0, 1), (31, .dup, 1), (32, .getfield 40, 3), (35, .iconst 1, 1), (36, .iadd, 1), (37, .putfield 40, 3), (40, .aload_n 0, 1), (41, .getfield 40, 3), (44, .iconst 1, 1), (45, .isub, 1), (46, .ireturn, 1)] = true := by decide +kernel
theorem dX2_makeField_0 : decode cX2_makeField 0 = .ok (.aload_n 0, 1) := dk_at k_dX2_makeField_0 (i := 0) rfl
theorem dX2_makeField_1 : decode cX2_makeField 1 = .ok (.getfield 40, 3) := dk_at k_dX2_makeField_0 (i := 1) rfl
theorem dX2_makeField_4 : decode cX2_makeField 4 = .ok (.iconst 5, 1) := dk_at k_dX2_makeField_0 (i := 2) rfl
theorem dX2_makeField_5 : decode cX2_makeField 5 = .ok (.if_icmp .lt 5, 3) := dk_at k_dX2_makeField_0 (i := 3) rfl
theorem dX2_makeField_8 : decode cX2_makeField 8 = .ok (.iconst (-1), 1) := dk_at k_dX2_makeField_0 (i := 4) rfl
theorem dX2_makeField_9 : decode cX2_makeField 9 = .ok (.ireturn, 1) := dk_at k_dX2_makeField_0 (i := 5) rfl
theorem dX2_makeField_10 : decode cX2_makeField 10 = .ok (.aload_n 0, 1) := dk_at k_dX2_makeField_0 (i := 6) rfl
theorem dX2_makeField_11 : decode cX2_makeField 11 = .ok (.getfield 9, 3) := dk_at k_dX2_makeField_0 (i := 7) rfl
theorem dX2_makeField_14 : decode cX2_makeField 14 = .ok (.aload_n 0, 1) := dk_at k_dX2_makeField_0 (i := 8) rfl
theorem dX2_makeField_15 : decode cX2_makeField 15 = .ok (.getfield 40, 3) := dk_at k_dX2_makeField_0 (i := 9) rfl
theorem dX2_makeField_18 : decode cX2_makeField 18 = .ok (.iload_n 1, 1) := dk_at k_dX2_makeField_0 (i := 10) rfl
theorem dX2_makeField_19 : decode cX2_makeField 19 = .ok (.iastore, 1) := dk_at k_dX2_makeField_0 (i := 11) rfl
theorem dX2_makeField_20 : decode cX2_makeField 20 = .ok (.aload_n 0, 1) := dk_at k_dX2_makeField_0 (i := 12) rfl
theorem dX2_makeField_21 : decode cX2_makeField 21 = .ok (.getfield 15, 3) := dk_at k_dX2_makeField_0 (i := 13) rfl
theorem dX2_makeField_24 : decode cX2_makeField 24 = .ok (.aload_n 0, 1) := dk_at k_dX2_makeField_0 (i := 14) rfl
theorem dX2_makeField_25 : decode cX2_makeField 25 = .ok (.getfield 40, 3) := dk_at k_dX2_makeField_0 (i := 15) rfl
theorem dX2_makeField_28 : decode cX2_makeField 28 = .ok (.iconst 1, 1) := dk_at k_dX2_makeField_0 (i := 16) rfl
theorem dX2_makeField_29 : decode cX2_makeField 29 = .ok (.iastore, 1) := dk_at k_dX2_makeField_0 (i := 17) rfl
theorem dX2_makeField_30 : decode cX2_makeField 30 = .ok (.aload_n 0, 1) := dk_at k_dX2_makeField_0 (i := 18) rfl
theorem dX2_makeField_31 : decode cX2_makeField 31 = .ok (.dup, 1) := dk_at k_dX2_makeField_0 (i := 19) rfl
theorem dX2_makeField_32 : decode cX2_makeField 32 = .ok (.getfield 40, 3) := dk_at k_dX2_makeField_0 (i := 20) rfl
theorem dX2_makeField_35 : decode cX2_makeField 35 = .ok (.iconst 1, 1) := dk_at k_dX2_makeField_0 (i := 21) rfl
theorem dX2_makeField_36 : decode cX2_makeField 36 = .ok (.iadd, 1) := dk_at k_dX2_makeField_0 (i := 22) rfl
theorem dX2_makeField_37 : decode cX2_makeField 37 = .ok (.putfield 40, 3) := dk_at k_dX2_makeField_0 (i := 23) rfl
theorem dX2_makeField_40 : decode cX2_makeField 40 = .ok (.aload_n 0, 1) := dk_at k_dX2_makeField_0 (i := 24) rfl
theorem dX2_makeField_41 : decode cX2_makeField 41 = .ok (.getfield 40, 3) := dk_at k_dX2_makeField_0 (i := 25) rfl
theorem dX2_makeField_44 : decode cX2_makeField 44 = .ok (.iconst 1, 1) := dk_at k_dX2_makeField_0 (i := 26) rfl
theorem dX2_makeField_45 : decode cX2_makeField 45 = .ok (.isub, 1) := dk_at k_dX2_makeField_0 (i := 27) rfl
theorem dX2_makeField_46 : decode cX2_makeField 46 = .ok (.ireturn, 1) := dk_at k_dX2_makeField_0 (i := 28) rfl
theorem k_dX2_makeLine_0 : dk cX2_makeLine [(0, .aload_n 0, 1), (1, .getfield 44, 3), (4, .bipush 30, 2), (6, .if_icmp .lt 5, 3), (9, .iconst (-1), 1), (10, .ireturn, 1), (11, .aload_n 0, 1), (12, .getfield 18, 3), (15, .aload_n 0, 1), (16, .getfield 44, 3), (19, .iload_n 1, 1), (20, .iastore, 1), (21, .aload_n 0, 1), (22, .getfield 21, 3), (25, .aload_n 0, 1), (26, .getfield 44, 3), (29, .iload_n 2, 1), (30, .iastore, 1), (31, .aload_n 0, 1), (32, .getfield 24, 3), (35, .aload_n 0, 1), (36, .getfield 44, 3), (39, .iload_n 3, 1), (40, .iastore, 1), (41, .aload_n 0, 1), (42, .getfield 27, 3), (45, .aload_n 0, 1), (46, .getfield 44, 3), (49, .iload 4, 2), (51, .iastore, 1), (52, .aload_n 0, 1), (53, .getfield 30, 3)] = true := by decide +kernel
theorem dX2_makeLine_0 : decode cX2_makeLine 0 = .ok (.aload_n 0, 1) := dk_at k_dX2_makeLine_0 (i := 0) rfl
theorem dX2_makeLine_1 : decode cX2_makeLine 1 = .ok (.getfield 44, 3) := dk_at k_dX2_makeLine_0 (i := 1) rfl
theorem dX2_makeLine_4 : decode cX2_makeLine 4 = .ok (.bipush 30, 2) := dk_at k_dX2_makeLine_0 (i := 2) rfl
theorem dX2_makeLine_6 : decode cX2_makeLine 6 = .ok (.if_icmp .lt 5, 3) := dk_at k_dX2_makeLine_0 (i := 3) rfl
theorem dX2_makeLine_9 : decode cX2_makeLine 9 = .ok (.iconst (-1), 1) := dk_at k_dX2_makeLine_0 (i := 4) rfl
theorem dX2_makeLine_10 : decode cX2_makeLine 10 = .ok (.ireturn, 1) := dk_at k_dX2_makeLine_0 (i := 5) rfl
theorem dX2_makeLine_11 : decode cX2_makeLine 11 = .ok (.aload_n 0, 1) := dk_at k_dX2_makeLine_0 (i := 6) rfl
theorem dX2_makeLine_12 : decode cX2_makeLine 12 = .ok (.getfield 18, 3) := dk_at k_dX2_makeLine_0 (i := 7) rfl
theorem dX2_makeLine_15 : decode cX2_makeLine 15 = .ok (.aload_n 0, 1) := dk_at k_dX2_makeLine_0 (i := 8) rfl
theorem dX2_makeLine_16 : decode cX2_makeLine 16 = .ok (.getfield 44, 3) := dk_at k_dX2_makeLine_0 (i := 9) rfl
theorem dX2_makeLine_19 : decode cX2_makeLine 19 = .ok (.iload_n 1, 1) := dk_at k_dX2_makeLine_0 (i := 10) rfl
theorem dX2_makeLine_20 : decode cX2_makeLine 20 = .ok (.iastore, 1) := dk_at k_dX2_makeLine_0 (i := 11) rfl
theorem dX2_makeLine_21 : decode cX2_makeLine 21 = .ok (.aload_n 0, 1) := dk_at k_dX2_makeLine_0 (i := 12) rfl
theorem dX2_makeLine_22 : decode cX2_makeLine 22 = .ok (.getfield 21, 3) := dk_at k_dX2_makeLine_0 (i := 13) rfl
theorem dX2_makeLine_25 : decode cX2_makeLine 25 = .ok (.aload_n 0, 1) := dk_at k_dX2_makeLine_0 (i := 14) rfl
theorem dX2_makeLine_26 : decode cX2_makeLine 26 = .ok (.getfield 44, 3) := dk_at k_dX2_makeLine_0 (i := 15) rfl
theorem dX2_makeLine_29 : decode cX2_makeLine 29 = .ok (.iload_n 2, 1) := dk_at k_dX2_makeLine_0 (i := 16) rfl
theorem dX2_makeLine_30 : decode cX2_makeLine 30 = .ok (.iastore, 1) := dk_at k_dX2_makeLine_0 (i := 17) rfl
theorem dX2_makeLine_31 : decode cX2_makeLine 31 = .ok (.aload_n 0, 1) := dk_at k_dX2_makeLine_0 (i := 18) rfl
theorem dX2_makeLine_32 : decode cX2_makeLine 32 = .ok (.getfield 24, 3) := dk_at k_dX2_makeLine_0 (i := 19) rfl
theorem dX2_makeLine_35 : decode cX2_makeLine 35 = .ok (.aload_n 0, 1) := dk_at k_dX2_makeLine_0 (i := 20) rfl
theorem dX2_makeLine_36 : decode cX2_makeLine 36 = .ok (.getfield 44, 3) := dk_at k_dX2_makeLine_0 (i := 21) rfl
theorem dX2_makeLine_39 : decode cX2_makeLine 39 = .ok (.iload_n 3, 1) := dk_at k_dX2_makeLine_0 (i := 22) rfl
theorem dX2_makeLine_40 : decode cX2_makeLine 40 = .ok (.iastore, 1) := dk_at k_dX2_makeLine_0 (i := 23) rfl
theorem dX2_makeLine_41 : decode cX2_makeLine 41 = .ok (.aload_n 0, 1) := dk_at k_dX2_makeLine_0 (i := 24) rfl
theorem dX2_makeLine_42 : decode cX2_makeLine 42 = .ok (.getfield 27, 3) := dk_at k_dX2_makeLine_0 (i := 25) rfl
theorem dX2_makeLine_45 : decode cX2_makeLine 45 = .ok (.aload_n 0, 1) := dk_at k_dX2_makeLine_0 (i := 26) rfl
theorem dX2_makeLine_46 : decode cX2_makeLine 46 = .ok (.getfield 44, 3) := dk_at k_dX2_makeLine_0 (i := 27) rfl
theorem dX2_makeLine_49 : decode cX2_makeLine 49 = .ok (.iload 4, 2) := dk_at k_dX2_makeLine_0 (i := 28) rfl
theorem dX2_makeLine_51 : decode cX2_makeLine 51 = .ok (.iastore, 1) := dk_at k_dX2_makeLine_0 (i := 29) rfl
theorem dX2_makeLine_52 : decode cX2_makeLine 52 = .ok (.aload_n 0, 1) := dk_at k_dX2_makeLine_0 (i := 30) rfl
theorem dX2_makeLine_53 : decode cX2_makeLine 53 = .ok (.getfield 30, 3) := dk_at k_dX2_makeLine_0 (i := 31) rfl
theorem k_dX2_makeLine_56 : dk cX2_makeLine [(56, .aload_n 0, 1), (57, .getfield 44, 3), (60, .iload 5, 2), (62, .iastore, 1), (63, .aload_n 0, 1), (64, .dup, 1), (65, .getfield 44, 3), (68, .iconst 1, 1), (69, .iadd, 1), (70, .putfield 44, 3), (73, .aload_n 0, 1), (74, .getfield 44, 3), (77, .iconst 1, 1), (78, .isub, 1), (79, .ireturn, 1)] = true := by decide +kernel
theorem dX2_makeLine_56 : decode cX2_makeLine 56 = .ok (.aload_n 0, 1) := dk_at k_dX2_makeLine_56 (i := 0) rfl
theorem dX2_makeLine_57 : decode cX2_makeLine 57 = .ok (.getfield 44, 3) := dk_at k_dX2_makeLine_56 (i := 1) rfl
theorem dX2_makeLine_60 : decode cX2_makeLine 60 = .ok (.iload 5, 2) := dk_at k_dX2_makeLine_56 (i := 2) rfl
theorem dX2_makeLine_62 : decode cX2_makeLine 62 = .ok (.iastore, 1) := dk_at k_dX2_makeLine_56 (i := 3) rfl
theorem dX2_makeLine_63 : decode cX2_makeLine 63 = .ok (.aload_n 0, 1) := dk_at k_dX2_makeLine_56 (i := 4) rfl
theorem dX2_makeLine_64 : decode cX2_makeLine 64 = .ok (.dup, 1) := dk_at k_dX2_makeLine_56 (i := 5) rfl
theorem dX2_makeLine_65 : decode cX2_makeLine 65 = .ok (.getfield 44, 3) := dk_at k_dX2_makeLine_56 (i := 6) rfl
theorem dX2_makeLine_68 : decode cX2_makeLine 68 = .ok (.iconst 1, 1) := dk_at k_dX2_makeLine_56 (i := 7) rfl
theorem dX2_makeLine_69 : decode cX2_makeLine 69 = .ok (.iadd, 1) := dk_at k_dX2_makeLine_56 (i := 8) rfl
theorem dX2_makeLine_70 : decode cX2_makeLine 70 = .ok (.putfield 44, 3) := dk_at k_dX2_makeLine_56 (i := 9) rfl
theorem dX2_makeLine_73 : decode cX2_makeLine 73 = .ok (.aload_n 0, 1) := dk_at k_dX2_makeLine_56 (i := 10) rfl
theorem dX2_makeLine_74 : decode cX2_makeLine 74 = .ok (.getfield 44, 3) := dk_at k_dX2_makeLine_56 (i := 11) rfl
theorem dX2_makeLine_77 : decode cX2_makeLine 77 = .ok (.iconst 1, 1) := dk_at k_dX2_makeLine_56 (i := 12) rfl
theorem dX2_makeLine_78 : decode cX2_makeLine 78 = .ok (.isub, 1) := dk_at k_dX2_makeLine_56 (i := 13) rfl
theorem dX2_makeLine_79 : decode cX2_makeLine 79 = .ok (.ireturn, 1) := dk_at k_dX2_makeLine_56 (i := 14) rfl
theorem k_dX2_counts_0 : dk cX2_counts [(0, .aload_n 0, 1), (1, .getfield 37, 3), (4, .iload_n 1, 1), (5, .baload, 1), (6, .ifCond .ne 36, 3), (9, .aload_n 0, 1), (10, .getfield 33, 3), (13, .iload_n 1, 1), (14, .baload, 1), (15, .ifCond .ne 23, 3), (18, .aload_n 0, 1), (19, .getfield 21, 3), (22, .iload_n 1, 1), (23, .iaload, 1), (24, .aload_n 0, 1), (25, .getfield 9, 3), (28, .aload_n 0, 1), (29, .getfield 24, 3), (32, .iload_n 1, 1), (33, .iaload, 1), (34, .iaload, 1), (35, .if_icmp .ne 7, 3), (38, .iconst 1, 1), (39, .goto 4, 3), (42, .iconst 0, 1), (43, .ireturn, 1)] = true := by decide +kernel
theorem dX2_counts_0 : decode cX2_counts 0 = .ok (.aload_n 0, 1) := dk_at k_dX2_counts_0 (i := 0) rfl
theorem dX2_counts_1 : decode cX2_counts 1 = .ok (.getfield 37, 3) := dk_at k_dX2_counts_0 (i := 1) rfl
theorem dX2_counts_4 : decode cX2_counts 4 = .ok (.iload_n 1, 1) := dk_at k_dX2_counts_0 (i := 2) rfl
theorem dX2_counts_5 : decode cX2_counts 5 = .ok (.baload, 1) := dk_at k_dX2_counts_0 (i := 3) rfl
theorem dX2_counts_6 : decode cX2_counts 6 = .ok (.ifCond .ne 36, 3) := dk_at k_dX2_counts_0 (i := 4) rfl
theorem dX2_counts_9 : decode cX2_counts 9 = .ok (.aload_n 0, 1) := dk_at k_dX2_counts_0 (i := 5) rfl
theorem dX2_counts_10 : decode cX2_counts 10 = .ok (.getfield 33, 3) := dk_at k_dX2_counts_0 (i := 6) rfl
theorem dX2_counts_13 : decode cX2_counts 13 = .ok (.iload_n 1, 1) := dk_at k_dX2_counts_0 (i := 7) rfl
theorem dX2_counts_14 : decode cX2_counts 14 = .ok (.baload, 1) := dk_at k_dX2_counts_0 (i := 8) rfl
theorem dX2_counts_15 : decode cX2_counts 15 = .ok (.ifCond .ne 23, 3) := dk_at k_dX2_counts_0 (i := 9) rfl
theorem dX2_counts_18 : decode cX2_counts 18 = .ok (.aload_n 0, 1) := dk_at k_dX2_counts_0 (i := 10) rfl
theorem dX2_counts_19 : decode cX2_counts 19 = .ok (.getfield 21, 3) := dk_at k_dX2_counts_0 (i := 11) rfl
theorem dX2_counts_22 : decode cX2_counts 22 = .ok (.iload_n 1, 1) := dk_at k_dX2_counts_0 (i := 12) rfl
theorem dX2_counts_23 : decode cX2_counts 23 = .ok (.iaload, 1) := dk_at k_dX2_counts_0 (i := 13) rfl
theorem dX2_counts_24 : decode cX2_counts 24 = .ok (.aload_n 0, 1) := dk_at k_dX2_counts_0 (i := 14) rfl
theorem dX2_counts_25 : decode cX2_counts 25 = .ok (.getfield 9, 3) := dk_at k_dX2_counts_0 (i := 15) rfl
theorem dX2_counts_28 : decode cX2_counts 28 = .ok (.aload_n 0, 1) := dk_at k_dX2_counts_0 (i := 16) rfl
theorem dX2_counts_29 : decode cX2_counts 29 = .ok (.getfield 24, 3) := dk_at k_dX2_counts_0 (i := 17) rfl
theorem dX2_counts_32 : decode cX2_counts 32 = .ok (.iload_n 1, 1) := dk_at k_dX2_counts_0 (i := 18) rfl
theorem dX2_counts_33 : decode cX2_counts 33 = .ok (.iaload, 1) := dk_at k_dX2_counts_0 (i := 19) rfl
theorem dX2_counts_34 : decode cX2_counts 34 = .ok (.iaload, 1) := dk_at k_dX2_counts_0 (i := 20) rfl
theorem dX2_counts_35 : decode cX2_counts 35 = .ok (.if_icmp .ne 7, 3) := dk_at k_dX2_counts_0 (i := 21) rfl
theorem dX2_counts_38 : decode cX2_counts 38 = .ok (.iconst 1, 1) := dk_at k_dX2_counts_0 (i := 22) rfl
theorem dX2_counts_39 : decode cX2_counts 39 = .ok (.goto 4, 3) := dk_at k_dX2_counts_0 (i := 23) rfl
theorem dX2_counts_42 : decode cX2_counts 42 = .ok (.iconst 0, 1) := dk_at k_dX2_counts_0 (i := 24) rfl
theorem dX2_counts_43 : decode cX2_counts 43 = .ok (.ireturn, 1) := dk_at k_dX2_counts_0 (i := 25) rfl
theorem k_dX2_countingLines_0 : dk cX2_countingLines [(0, .iconst 0, 1), (1, .istore_n 1, 1), (2, .iconst 0, 1), (3, .istore_n 2, 1), (4, .iload_n 2, 1), (5, .aload_n 0, 1), (6, .getfield 44, 3), (9, .if_icmp .ge 20, 3), (12, .aload_n 0, 1), (13, .iload_n 2, 1), (14, .invokevirtual 47, 3), (17, .ifCond .eq 6, 3), (20, .iinc 1 1, 3), (23, .iinc 2 1, 3), (26, .goto (-22), 3), (29, .iload_n 1, 1), (30, .ireturn, 1)] = true := by decide +kernel
theorem dX2_countingLines_0 : decode cX2_countingLines 0 = .ok (.iconst 0, 1) := dk_at k_dX2_countingLines_0 (i := 0) rfl
theorem dX2_countingLines_1 : decode cX2_countingLines 1 = .ok (.istore_n 1, 1) := dk_at k_dX2_countingLines_0 (i := 1) rfl
theorem dX2_countingLines_2 : decode cX2_countingLines 2 = .ok (.iconst 0, 1) := dk_at k_dX2_countingLines_0 (i := 2) rfl
theorem dX2_countingLines_3 : decode cX2_countingLines 3 = .ok (.istore_n 2, 1) := dk_at k_dX2_countingLines_0 (i := 3) rfl
theorem dX2_countingLines_4 : decode cX2_countingLines 4 = .ok (.iload_n 2, 1) := dk_at k_dX2_countingLines_0 (i := 4) rfl
theorem dX2_countingLines_5 : decode cX2_countingLines 5 = .ok (.aload_n 0, 1) := dk_at k_dX2_countingLines_0 (i := 5) rfl
theorem dX2_countingLines_6 : decode cX2_countingLines 6 = .ok (.getfield 44, 3) := dk_at k_dX2_countingLines_0 (i := 6) rfl
theorem dX2_countingLines_9 : decode cX2_countingLines 9 = .ok (.if_icmp .ge 20, 3) := dk_at k_dX2_countingLines_0 (i := 7) rfl
theorem dX2_countingLines_12 : decode cX2_countingLines 12 = .ok (.aload_n 0, 1) := dk_at k_dX2_countingLines_0 (i := 8) rfl
theorem dX2_countingLines_13 : decode cX2_countingLines 13 = .ok (.iload_n 2, 1) := dk_at k_dX2_countingLines_0 (i := 9) rfl
theorem dX2_countingLines_14 : decode cX2_countingLines 14 = .ok (.invokevirtual 47, 3) := dk_at k_dX2_countingLines_0 (i := 10) rfl
theorem dX2_countingLines_17 : decode cX2_countingLines 17 = .ok (.ifCond .eq 6, 3) := dk_at k_dX2_countingLines_0 (i := 11) rfl
theorem dX2_countingLines_20 : decode cX2_countingLines 20 = .ok (.iinc 1 1, 3) := dk_at k_dX2_countingLines_0 (i := 12) rfl
theorem dX2_countingLines_23 : decode cX2_countingLines 23 = .ok (.iinc 2 1, 3) := dk_at k_dX2_countingLines_0 (i := 13) rfl
theorem dX2_countingLines_26 : decode cX2_countingLines 26 = .ok (.goto (-22), 3) := dk_at k_dX2_countingLines_0 (i := 14) rfl
theorem dX2_countingLines_29 : decode cX2_countingLines 29 = .ok (.iload_n 1, 1) := dk_at k_dX2_countingLines_0 (i := 15) rfl
theorem dX2_countingLines_30 : decode cX2_countingLines 30 = .ok (.ireturn, 1) := dk_at k_dX2_countingLines_0 (i := 16) rfl
theorem k_dX2_strictLines_0 : dk cX2_strictLines [(0, .iconst 0, 1), (1, .istore_n 1, 1), (2, .iconst 0, 1), (3, .istore_n 2, 1), (4, .iload_n 2, 1), (5, .aload_n 0, 1), (6, .getfield 44, 3), (9, .if_icmp .ge 33, 3), (12, .aload_n 0, 1), (13, .getfield 18, 3), (16, .iload_n 2, 1), (17, .iaload, 1), (18, .iconst 5, 1), (19, .if_icmp .eq 17, 3), (22, .aload_n 0, 1), (23, .iload_n 2, 1), (24, .invokevirtual 47, 3), (27, .ifCond .eq 9, 3), (30, .iload_n 1, 1), (31, .iconst 1, 1), (32, .iload_n 2, 1), (33, .ishl, 1), (34, .ior, 1), (35, .istore_n 1, 1), (36, .iinc 2 1, 3), (39, .goto (-35), 3), (42, .iload_n 1, 1), (43, .ireturn, 1)] = true := by decide +kernel
theorem dX2_strictLines_0 : decode cX2_strictLines 0 = .ok (.iconst 0, 1) := dk_at k_dX2_strictLines_0 (i := 0) rfl
theorem dX2_strictLines_1 : decode cX2_strictLines 1 = .ok (.istore_n 1, 1) := dk_at k_dX2_strictLines_0 (i := 1) rfl
theorem dX2_strictLines_2 : decode cX2_strictLines 2 = .ok (.iconst 0, 1) := dk_at k_dX2_strictLines_0 (i := 2) rfl
theorem dX2_strictLines_3 : decode cX2_strictLines 3 = .ok (.istore_n 2, 1) := dk_at k_dX2_strictLines_0 (i := 3) rfl
theorem dX2_strictLines_4 : decode cX2_strictLines 4 = .ok (.iload_n 2, 1) := dk_at k_dX2_strictLines_0 (i := 4) rfl
theorem dX2_strictLines_5 : decode cX2_strictLines 5 = .ok (.aload_n 0, 1) := dk_at k_dX2_strictLines_0 (i := 5) rfl
theorem dX2_strictLines_6 : decode cX2_strictLines 6 = .ok (.getfield 44, 3) := dk_at k_dX2_strictLines_0 (i := 6) rfl
theorem dX2_strictLines_9 : decode cX2_strictLines 9 = .ok (.if_icmp .ge 33, 3) := dk_at k_dX2_strictLines_0 (i := 7) rfl
theorem dX2_strictLines_12 : decode cX2_strictLines 12 = .ok (.aload_n 0, 1) := dk_at k_dX2_strictLines_0 (i := 8) rfl
theorem dX2_strictLines_13 : decode cX2_strictLines 13 = .ok (.getfield 18, 3) := dk_at k_dX2_strictLines_0 (i := 9) rfl
theorem dX2_strictLines_16 : decode cX2_strictLines 16 = .ok (.iload_n 2, 1) := dk_at k_dX2_strictLines_0 (i := 10) rfl
theorem dX2_strictLines_17 : decode cX2_strictLines 17 = .ok (.iaload, 1) := dk_at k_dX2_strictLines_0 (i := 11) rfl
theorem dX2_strictLines_18 : decode cX2_strictLines 18 = .ok (.iconst 5, 1) := dk_at k_dX2_strictLines_0 (i := 12) rfl
theorem dX2_strictLines_19 : decode cX2_strictLines 19 = .ok (.if_icmp .eq 17, 3) := dk_at k_dX2_strictLines_0 (i := 13) rfl
theorem dX2_strictLines_22 : decode cX2_strictLines 22 = .ok (.aload_n 0, 1) := dk_at k_dX2_strictLines_0 (i := 14) rfl
theorem dX2_strictLines_23 : decode cX2_strictLines 23 = .ok (.iload_n 2, 1) := dk_at k_dX2_strictLines_0 (i := 15) rfl
theorem dX2_strictLines_24 : decode cX2_strictLines 24 = .ok (.invokevirtual 47, 3) := dk_at k_dX2_strictLines_0 (i := 16) rfl
theorem dX2_strictLines_27 : decode cX2_strictLines 27 = .ok (.ifCond .eq 9, 3) := dk_at k_dX2_strictLines_0 (i := 17) rfl
theorem dX2_strictLines_30 : decode cX2_strictLines 30 = .ok (.iload_n 1, 1) := dk_at k_dX2_strictLines_0 (i := 18) rfl
theorem dX2_strictLines_31 : decode cX2_strictLines 31 = .ok (.iconst 1, 1) := dk_at k_dX2_strictLines_0 (i := 19) rfl
theorem dX2_strictLines_32 : decode cX2_strictLines 32 = .ok (.iload_n 2, 1) := dk_at k_dX2_strictLines_0 (i := 20) rfl
theorem dX2_strictLines_33 : decode cX2_strictLines 33 = .ok (.ishl, 1) := dk_at k_dX2_strictLines_0 (i := 21) rfl
theorem dX2_strictLines_34 : decode cX2_strictLines 34 = .ok (.ior, 1) := dk_at k_dX2_strictLines_0 (i := 22) rfl
theorem dX2_strictLines_35 : decode cX2_strictLines 35 = .ok (.istore_n 1, 1) := dk_at k_dX2_strictLines_0 (i := 23) rfl
theorem dX2_strictLines_36 : decode cX2_strictLines 36 = .ok (.iinc 2 1, 3) := dk_at k_dX2_strictLines_0 (i := 24) rfl
theorem dX2_strictLines_39 : decode cX2_strictLines 39 = .ok (.goto (-35), 3) := dk_at k_dX2_strictLines_0 (i := 25) rfl
theorem dX2_strictLines_42 : decode cX2_strictLines 42 = .ok (.iload_n 1, 1) := dk_at k_dX2_strictLines_0 (i := 26) rfl
theorem dX2_strictLines_43 : decode cX2_strictLines 43 = .ok (.ireturn, 1) := dk_at k_dX2_strictLines_0 (i := 27) rfl
theorem k_dX2_defaultsOf_0 : dk cX2_defaultsOf [(0, .iconst 0, 1), (1, .istore_n 3, 1), (2, .iconst 0, 1), (3, .istore 4, 2), (5, .iload 4, 2), (7, .aload_n 0, 1), (8, .getfield 44, 3), (11, .if_icmp .ge 63, 3), (14, .aload_n 0, 1), (15, .getfield 18, 3), (18, .iload 4, 2), (20, .iaload, 1), (21, .iconst 5, 1), (22, .if_icmp .ne 46, 3), (25, .aload_n 0, 1), (26, .getfield 24, 3), (29, .iload 4, 2), (31, .iaload, 1), (32, .iload_n 1, 1), (33, .if_icmp .ne 35, 3), (36, .aload_n 0, 1), (37, .getfield 30, 3), (40, .iload 4, 2), (42, .iaload, 1), (43, .iload_n 2, 1), (44, .if_icmp .ne 24, 3), (47, .aload_n 0, 1), (48, .iload 4, 2), (50, .invokevirtual 47, 3), (53, .ifCond .eq 15, 3), (56, .iload_n 3, 1), (57, .iconst 1, 1)] = true := by decide +kernel
theorem dX2_defaultsOf_0 : decode cX2_defaultsOf 0 = .ok (.iconst 0, 1) := dk_at k_dX2_defaultsOf_0 (i := 0) rfl
theorem dX2_defaultsOf_1 : decode cX2_defaultsOf 1 = .ok (.istore_n 3, 1) := dk_at k_dX2_defaultsOf_0 (i := 1) rfl
theorem dX2_defaultsOf_2 : decode cX2_defaultsOf 2 = .ok (.iconst 0, 1) := dk_at k_dX2_defaultsOf_0 (i := 2) rfl
theorem dX2_defaultsOf_3 : decode cX2_defaultsOf 3 = .ok (.istore 4, 2) := dk_at k_dX2_defaultsOf_0 (i := 3) rfl
theorem dX2_defaultsOf_5 : decode cX2_defaultsOf 5 = .ok (.iload 4, 2) := dk_at k_dX2_defaultsOf_0 (i := 4) rfl
theorem dX2_defaultsOf_7 : decode cX2_defaultsOf 7 = .ok (.aload_n 0, 1) := dk_at k_dX2_defaultsOf_0 (i := 5) rfl
theorem dX2_defaultsOf_8 : decode cX2_defaultsOf 8 = .ok (.getfield 44, 3) := dk_at k_dX2_defaultsOf_0 (i := 6) rfl
theorem dX2_defaultsOf_11 : decode cX2_defaultsOf 11 = .ok (.if_icmp .ge 63, 3) := dk_at k_dX2_defaultsOf_0 (i := 7) rfl
theorem dX2_defaultsOf_14 : decode cX2_defaultsOf 14 = .ok (.aload_n 0, 1) := dk_at k_dX2_defaultsOf_0 (i := 8) rfl
theorem dX2_defaultsOf_15 : decode cX2_defaultsOf 15 = .ok (.getfield 18, 3) := dk_at k_dX2_defaultsOf_0 (i := 9) rfl
theorem dX2_defaultsOf_18 : decode cX2_defaultsOf 18 = .ok (.iload 4, 2) := dk_at k_dX2_defaultsOf_0 (i := 10) rfl
theorem dX2_defaultsOf_20 : decode cX2_defaultsOf 20 = .ok (.iaload, 1) := dk_at k_dX2_defaultsOf_0 (i := 11) rfl
theorem dX2_defaultsOf_21 : decode cX2_defaultsOf 21 = .ok (.iconst 5, 1) := dk_at k_dX2_defaultsOf_0 (i := 12) rfl
theorem dX2_defaultsOf_22 : decode cX2_defaultsOf 22 = .ok (.if_icmp .ne 46, 3) := dk_at k_dX2_defaultsOf_0 (i := 13) rfl
theorem dX2_defaultsOf_25 : decode cX2_defaultsOf 25 = .ok (.aload_n 0, 1) := dk_at k_dX2_defaultsOf_0 (i := 14) rfl
theorem dX2_defaultsOf_26 : decode cX2_defaultsOf 26 = .ok (.getfield 24, 3) := dk_at k_dX2_defaultsOf_0 (i := 15) rfl
theorem dX2_defaultsOf_29 : decode cX2_defaultsOf 29 = .ok (.iload 4, 2) := dk_at k_dX2_defaultsOf_0 (i := 16) rfl
theorem dX2_defaultsOf_31 : decode cX2_defaultsOf 31 = .ok (.iaload, 1) := dk_at k_dX2_defaultsOf_0 (i := 17) rfl
theorem dX2_defaultsOf_32 : decode cX2_defaultsOf 32 = .ok (.iload_n 1, 1) := dk_at k_dX2_defaultsOf_0 (i := 18) rfl
theorem dX2_defaultsOf_33 : decode cX2_defaultsOf 33 = .ok (.if_icmp .ne 35, 3) := dk_at k_dX2_defaultsOf_0 (i := 19) rfl
theorem dX2_defaultsOf_36 : decode cX2_defaultsOf 36 = .ok (.aload_n 0, 1) := dk_at k_dX2_defaultsOf_0 (i := 20) rfl
theorem dX2_defaultsOf_37 : decode cX2_defaultsOf 37 = .ok (.getfield 30, 3) := dk_at k_dX2_defaultsOf_0 (i := 21) rfl
theorem dX2_defaultsOf_40 : decode cX2_defaultsOf 40 = .ok (.iload 4, 2) := dk_at k_dX2_defaultsOf_0 (i := 22) rfl
theorem dX2_defaultsOf_42 : decode cX2_defaultsOf 42 = .ok (.iaload, 1) := dk_at k_dX2_defaultsOf_0 (i := 23) rfl
theorem dX2_defaultsOf_43 : decode cX2_defaultsOf 43 = .ok (.iload_n 2, 1) := dk_at k_dX2_defaultsOf_0 (i := 24) rfl
theorem dX2_defaultsOf_44 : decode cX2_defaultsOf 44 = .ok (.if_icmp .ne 24, 3) := dk_at k_dX2_defaultsOf_0 (i := 25) rfl
theorem dX2_defaultsOf_47 : decode cX2_defaultsOf 47 = .ok (.aload_n 0, 1) := dk_at k_dX2_defaultsOf_0 (i := 26) rfl
theorem dX2_defaultsOf_48 : decode cX2_defaultsOf 48 = .ok (.iload 4, 2) := dk_at k_dX2_defaultsOf_0 (i := 27) rfl
theorem dX2_defaultsOf_50 : decode cX2_defaultsOf 50 = .ok (.invokevirtual 47, 3) := dk_at k_dX2_defaultsOf_0 (i := 28) rfl
theorem dX2_defaultsOf_53 : decode cX2_defaultsOf 53 = .ok (.ifCond .eq 15, 3) := dk_at k_dX2_defaultsOf_0 (i := 29) rfl
theorem dX2_defaultsOf_56 : decode cX2_defaultsOf 56 = .ok (.iload_n 3, 1) := dk_at k_dX2_defaultsOf_0 (i := 30) rfl
theorem dX2_defaultsOf_57 : decode cX2_defaultsOf 57 = .ok (.iconst 1, 1) := dk_at k_dX2_defaultsOf_0 (i := 31) rfl
theorem k_dX2_defaultsOf_58 : dk cX2_defaultsOf [(58, .aload_n 0, 1), (59, .getfield 27, 3), (62, .iload 4, 2), (64, .iaload, 1), (65, .ishl, 1), (66, .ior, 1), (67, .istore_n 3, 1), (68, .iinc 4 1, 3), (71, .goto (-66), 3), (74, .iload_n 3, 1), (75, .ireturn, 1)] = true := by decide +kernel
theorem dX2_defaultsOf_58 : decode cX2_defaultsOf 58 = .ok (.aload_n 0, 1) := dk_at k_dX2_defaultsOf_58 (i := 0) rfl
theorem dX2_defaultsOf_59 : decode cX2_defaultsOf 59 = .ok (.getfield 27, 3) := dk_at k_dX2_defaultsOf_58 (i := 1) rfl
theorem dX2_defaultsOf_62 : decode cX2_defaultsOf 62 = .ok (.iload 4, 2) := dk_at k_dX2_defaultsOf_58 (i := 2) rfl
theorem dX2_defaultsOf_64 : decode cX2_defaultsOf 64 = .ok (.iaload, 1) := dk_at k_dX2_defaultsOf_58 (i := 3) rfl
theorem dX2_defaultsOf_65 : decode cX2_defaultsOf 65 = .ok (.ishl, 1) := dk_at k_dX2_defaultsOf_58 (i := 4) rfl
theorem dX2_defaultsOf_66 : decode cX2_defaultsOf 66 = .ok (.ior, 1) := dk_at k_dX2_defaultsOf_58 (i := 5) rfl
theorem dX2_defaultsOf_67 : decode cX2_defaultsOf 67 = .ok (.istore_n 3, 1) := dk_at k_dX2_defaultsOf_58 (i := 6) rfl
theorem dX2_defaultsOf_68 : decode cX2_defaultsOf 68 = .ok (.iinc 4 1, 3) := dk_at k_dX2_defaultsOf_58 (i := 7) rfl
theorem dX2_defaultsOf_71 : decode cX2_defaultsOf 71 = .ok (.goto (-66), 3) := dk_at k_dX2_defaultsOf_58 (i := 8) rfl
theorem dX2_defaultsOf_74 : decode cX2_defaultsOf 74 = .ok (.iload_n 3, 1) := dk_at k_dX2_defaultsOf_58 (i := 9) rfl
theorem dX2_defaultsOf_75 : decode cX2_defaultsOf 75 = .ok (.ireturn, 1) := dk_at k_dX2_defaultsOf_58 (i := 10) rfl
theorem k_dX2_isOfTwo_0 : dk cX2_isOfTwo [(0, .aload_n 0, 1), (1, .getfield 18, 3), (4, .iload_n 1, 1), (5, .iaload, 1), (6, .iconst 3, 1), (7, .if_icmp .eq 13, 3), (10, .aload_n 0, 1), (11, .getfield 18, 3), (14, .iload_n 1, 1), (15, .iaload, 1), (16, .iconst 4, 1), (17, .if_icmp .ne 7, 3), (20, .iconst 1, 1), (21, .goto 4, 3), (24, .iconst 0, 1), (25, .ireturn, 1)] = true := by decide +kernel
theorem dX2_isOfTwo_0 : decode cX2_isOfTwo 0 = .ok (.aload_n 0, 1) := dk_at k_dX2_isOfTwo_0 (i := 0) rfl
theorem dX2_isOfTwo_1 : decode cX2_isOfTwo 1 = .ok (.getfield 18, 3) := dk_at k_dX2_isOfTwo_0 (i := 1) rfl
theorem dX2_isOfTwo_4 : decode cX2_isOfTwo 4 = .ok (.iload_n 1, 1) := dk_at k_dX2_isOfTwo_0 (i := 2) rfl
theorem dX2_isOfTwo_5 : decode cX2_isOfTwo 5 = .ok (.iaload, 1) := dk_at k_dX2_isOfTwo_0 (i := 3) rfl
theorem dX2_isOfTwo_6 : decode cX2_isOfTwo 6 = .ok (.iconst 3, 1) := dk_at k_dX2_isOfTwo_0 (i := 4) rfl
theorem dX2_isOfTwo_7 : decode cX2_isOfTwo 7 = .ok (.if_icmp .eq 13, 3) := dk_at k_dX2_isOfTwo_0 (i := 5) rfl
theorem dX2_isOfTwo_10 : decode cX2_isOfTwo 10 = .ok (.aload_n 0, 1) := dk_at k_dX2_isOfTwo_0 (i := 6) rfl
theorem dX2_isOfTwo_11 : decode cX2_isOfTwo 11 = .ok (.getfield 18, 3) := dk_at k_dX2_isOfTwo_0 (i := 7) rfl
theorem dX2_isOfTwo_14 : decode cX2_isOfTwo 14 = .ok (.iload_n 1, 1) := dk_at k_dX2_isOfTwo_0 (i := 8) rfl
theorem dX2_isOfTwo_15 : decode cX2_isOfTwo 15 = .ok (.iaload, 1) := dk_at k_dX2_isOfTwo_0 (i := 9) rfl
theorem dX2_isOfTwo_16 : decode cX2_isOfTwo 16 = .ok (.iconst 4, 1) := dk_at k_dX2_isOfTwo_0 (i := 10) rfl
theorem dX2_isOfTwo_17 : decode cX2_isOfTwo 17 = .ok (.if_icmp .ne 7, 3) := dk_at k_dX2_isOfTwo_0 (i := 11) rfl
theorem dX2_isOfTwo_20 : decode cX2_isOfTwo 20 = .ok (.iconst 1, 1) := dk_at k_dX2_isOfTwo_0 (i := 12) rfl
theorem dX2_isOfTwo_21 : decode cX2_isOfTwo 21 = .ok (.goto 4, 3) := dk_at k_dX2_isOfTwo_0 (i := 13) rfl
theorem dX2_isOfTwo_24 : decode cX2_isOfTwo 24 = .ok (.iconst 0, 1) := dk_at k_dX2_isOfTwo_0 (i := 14) rfl
theorem dX2_isOfTwo_25 : decode cX2_isOfTwo 25 = .ok (.ireturn, 1) := dk_at k_dX2_isOfTwo_0 (i := 15) rfl
theorem k_dX2_letsAlone_0 : dk cX2_letsAlone [(0, .aload_n 0, 1), (1, .getfield 18, 3), (4, .iload_n 1, 1), (5, .iaload, 1), (6, .tableswitch 62 0 2 #[26, 33, 48], 26), (32, .aload_n 0, 1), (33, .getfield 27, 3), (36, .iload_n 1, 1), (37, .iaload, 1), (38, .ireturn, 1), (39, .sipush 255, 3), (42, .aload_n 0, 1), (43, .getfield 27, 3), (46, .iload_n 1, 1), (47, .iaload, 1), (48, .ishl, 1), (49, .sipush 255, 3), (52, .iand, 1), (53, .ireturn, 1), (54, .sipush 255, 3), (57, .bipush 7, 2), (59, .aload_n 0, 1), (60, .getfield 27, 3), (63, .iload_n 1, 1), (64, .iaload, 1), (65, .isub, 1), (66, .ishr, 1), (67, .ireturn, 1), (68, .sipush 255, 3), (71, .ireturn, 1)] = true := by decide +kernel
theorem dX2_letsAlone_0 : decode cX2_letsAlone 0 = .ok (.aload_n 0, 1) := dk_at k_dX2_letsAlone_0 (i := 0) rfl
theorem dX2_letsAlone_1 : decode cX2_letsAlone 1 = .ok (.getfield 18, 3) := dk_at k_dX2_letsAlone_0 (i := 1) rfl
theorem dX2_letsAlone_4 : decode cX2_letsAlone 4 = .ok (.iload_n 1, 1) := dk_at k_dX2_letsAlone_0 (i := 2) rfl
theorem dX2_letsAlone_5 : decode cX2_letsAlone 5 = .ok (.iaload, 1) := dk_at k_dX2_letsAlone_0 (i := 3) rfl
theorem dX2_letsAlone_6 : decode cX2_letsAlone 6 = .ok (.tableswitch 62 0 2 #[26, 33, 48], 26) := dk_at k_dX2_letsAlone_0 (i := 4) rfl
theorem dX2_letsAlone_32 : decode cX2_letsAlone 32 = .ok (.aload_n 0, 1) := dk_at k_dX2_letsAlone_0 (i := 5) rfl
theorem dX2_letsAlone_33 : decode cX2_letsAlone 33 = .ok (.getfield 27, 3) := dk_at k_dX2_letsAlone_0 (i := 6) rfl
theorem dX2_letsAlone_36 : decode cX2_letsAlone 36 = .ok (.iload_n 1, 1) := dk_at k_dX2_letsAlone_0 (i := 7) rfl
theorem dX2_letsAlone_37 : decode cX2_letsAlone 37 = .ok (.iaload, 1) := dk_at k_dX2_letsAlone_0 (i := 8) rfl
theorem dX2_letsAlone_38 : decode cX2_letsAlone 38 = .ok (.ireturn, 1) := dk_at k_dX2_letsAlone_0 (i := 9) rfl
theorem dX2_letsAlone_39 : decode cX2_letsAlone 39 = .ok (.sipush 255, 3) := dk_at k_dX2_letsAlone_0 (i := 10) rfl
theorem dX2_letsAlone_42 : decode cX2_letsAlone 42 = .ok (.aload_n 0, 1) := dk_at k_dX2_letsAlone_0 (i := 11) rfl
theorem dX2_letsAlone_43 : decode cX2_letsAlone 43 = .ok (.getfield 27, 3) := dk_at k_dX2_letsAlone_0 (i := 12) rfl
theorem dX2_letsAlone_46 : decode cX2_letsAlone 46 = .ok (.iload_n 1, 1) := dk_at k_dX2_letsAlone_0 (i := 13) rfl
theorem dX2_letsAlone_47 : decode cX2_letsAlone 47 = .ok (.iaload, 1) := dk_at k_dX2_letsAlone_0 (i := 14) rfl
theorem dX2_letsAlone_48 : decode cX2_letsAlone 48 = .ok (.ishl, 1) := dk_at k_dX2_letsAlone_0 (i := 15) rfl
theorem dX2_letsAlone_49 : decode cX2_letsAlone 49 = .ok (.sipush 255, 3) := dk_at k_dX2_letsAlone_0 (i := 16) rfl
theorem dX2_letsAlone_52 : decode cX2_letsAlone 52 = .ok (.iand, 1) := dk_at k_dX2_letsAlone_0 (i := 17) rfl
theorem dX2_letsAlone_53 : decode cX2_letsAlone 53 = .ok (.ireturn, 1) := dk_at k_dX2_letsAlone_0 (i := 18) rfl
theorem dX2_letsAlone_54 : decode cX2_letsAlone 54 = .ok (.sipush 255, 3) := dk_at k_dX2_letsAlone_0 (i := 19) rfl
theorem dX2_letsAlone_57 : decode cX2_letsAlone 57 = .ok (.bipush 7, 2) := dk_at k_dX2_letsAlone_0 (i := 20) rfl
theorem dX2_letsAlone_59 : decode cX2_letsAlone 59 = .ok (.aload_n 0, 1) := dk_at k_dX2_letsAlone_0 (i := 21) rfl
theorem dX2_letsAlone_60 : decode cX2_letsAlone 60 = .ok (.getfield 27, 3) := dk_at k_dX2_letsAlone_0 (i := 22) rfl
theorem dX2_letsAlone_63 : decode cX2_letsAlone 63 = .ok (.iload_n 1, 1) := dk_at k_dX2_letsAlone_0 (i := 23) rfl
theorem dX2_letsAlone_64 : decode cX2_letsAlone 64 = .ok (.iaload, 1) := dk_at k_dX2_letsAlone_0 (i := 24) rfl
theorem dX2_letsAlone_65 : decode cX2_letsAlone 65 = .ok (.isub, 1) := dk_at k_dX2_letsAlone_0 (i := 25) rfl
theorem dX2_letsAlone_66 : decode cX2_letsAlone 66 = .ok (.ishr, 1) := dk_at k_dX2_letsAlone_0 (i := 26) rfl
theorem dX2_letsAlone_67 : decode cX2_letsAlone 67 = .ok (.ireturn, 1) := dk_at k_dX2_letsAlone_0 (i := 27) rfl
theorem dX2_letsAlone_68 : decode cX2_letsAlone 68 = .ok (.sipush 255, 3) := dk_at k_dX2_letsAlone_0 (i := 28) rfl
theorem dX2_letsAlone_71 : decode cX2_letsAlone 71 = .ok (.ireturn, 1) := dk_at k_dX2_letsAlone_0 (i := 29) rfl
theorem k_dX2_letsByOther_0 : dk cX2_letsByOther [(0, .aload_n 0, 1), (1, .getfield 18, 3), (4, .iload_n 1, 1), (5, .iaload, 1), (6, .iconst 4, 1), (7, .if_icmp .ne 37, 3), (10, .iload_n 3, 1), (11, .iload_n 3, 1), (12, .iconst 1, 1), (13, .isub, 1), (14, .iand, 1), (15, .ifCond .ne 7, 3), (18, .iconst 1, 1), (19, .goto 4, 3), (22, .iconst 0, 1), (23, .istore 4, 2), (25, .iload 4, 2), (27, .ifCond .eq 13, 3), (30, .sipush 255, 3), (33, .iload_n 3, 1), (34, .iconst (-1), 1), (35, .ixor, 1), (36, .iand, 1), (37, .goto 6, 3), (40, .sipush 255, 3), (43, .ireturn, 1), (44, .iload_n 2, 1), (45, .ifCond .eq 13, 3), (48, .aload_n 0, 1), (49, .getfield 30, 3), (52, .iload_n 1, 1), (53, .iaload, 1)] = true := by decide +kernel
theorem dX2_letsByOther_0 : decode cX2_letsByOther 0 = .ok (.aload_n 0, 1) := dk_at k_dX2_letsByOther_0 (i := 0) rfl
theorem dX2_letsByOther_1 : decode cX2_letsByOther 1 = .ok (.getfield 18, 3) := dk_at k_dX2_letsByOther_0 (i := 1) rfl
theorem dX2_letsByOther_4 : decode cX2_letsByOther 4 = .ok (.iload_n 1, 1) := dk_at k_dX2_letsByOther_0 (i := 2) rfl
theorem dX2_letsByOther_5 : decode cX2_letsByOther 5 = .ok (.iaload, 1) := dk_at k_dX2_letsByOther_0 (i := 3) rfl
theorem dX2_letsByOther_6 : decode cX2_letsByOther 6 = .ok (.iconst 4, 1) := dk_at k_dX2_letsByOther_0 (i := 4) rfl
theorem dX2_letsByOther_7 : decode cX2_letsByOther 7 = .ok (.if_icmp .ne 37, 3) := dk_at k_dX2_letsByOther_0 (i := 5) rfl
theorem dX2_letsByOther_10 : decode cX2_letsByOther 10 = .ok (.iload_n 3, 1) := dk_at k_dX2_letsByOther_0 (i := 6) rfl
theorem dX2_letsByOther_11 : decode cX2_letsByOther 11 = .ok (.iload_n 3, 1) := dk_at k_dX2_letsByOther_0 (i := 7) rfl
theorem dX2_letsByOther_12 : decode cX2_letsByOther 12 = .ok (.iconst 1, 1) := dk_at k_dX2_letsByOther_0 (i := 8) rfl
theorem dX2_letsByOther_13 : decode cX2_letsByOther 13 = .ok (.isub, 1) := dk_at k_dX2_letsByOther_0 (i := 9) rfl
theorem dX2_letsByOther_14 : decode cX2_letsByOther 14 = .ok (.iand, 1) := dk_at k_dX2_letsByOther_0 (i := 10) rfl
theorem dX2_letsByOther_15 : decode cX2_letsByOther 15 = .ok (.ifCond .ne 7, 3) := dk_at k_dX2_letsByOther_0 (i := 11) rfl
theorem dX2_letsByOther_18 : decode cX2_letsByOther 18 = .ok (.iconst 1, 1) := dk_at k_dX2_letsByOther_0 (i := 12) rfl
theorem dX2_letsByOther_19 : decode cX2_letsByOther 19 = .ok (.goto 4, 3) := dk_at k_dX2_letsByOther_0 (i := 13) rfl
theorem dX2_letsByOther_22 : decode cX2_letsByOther 22 = .ok (.iconst 0, 1) := dk_at k_dX2_letsByOther_0 (i := 14) rfl
theorem dX2_letsByOther_23 : decode cX2_letsByOther 23 = .ok (.istore 4, 2) := dk_at k_dX2_letsByOther_0 (i := 15) rfl
theorem dX2_letsByOther_25 : decode cX2_letsByOther 25 = .ok (.iload 4, 2) := dk_at k_dX2_letsByOther_0 (i := 16) rfl
theorem dX2_letsByOther_27 : decode cX2_letsByOther 27 = .ok (.ifCond .eq 13, 3) := dk_at k_dX2_letsByOther_0 (i := 17) rfl
theorem dX2_letsByOther_30 : decode cX2_letsByOther 30 = .ok (.sipush 255, 3) := dk_at k_dX2_letsByOther_0 (i := 18) rfl
theorem dX2_letsByOther_33 : decode cX2_letsByOther 33 = .ok (.iload_n 3, 1) := dk_at k_dX2_letsByOther_0 (i := 19) rfl
theorem dX2_letsByOther_34 : decode cX2_letsByOther 34 = .ok (.iconst (-1), 1) := dk_at k_dX2_letsByOther_0 (i := 20) rfl
theorem dX2_letsByOther_35 : decode cX2_letsByOther 35 = .ok (.ixor, 1) := dk_at k_dX2_letsByOther_0 (i := 21) rfl
theorem dX2_letsByOther_36 : decode cX2_letsByOther 36 = .ok (.iand, 1) := dk_at k_dX2_letsByOther_0 (i := 22) rfl
theorem dX2_letsByOther_37 : decode cX2_letsByOther 37 = .ok (.goto 6, 3) := dk_at k_dX2_letsByOther_0 (i := 23) rfl
theorem dX2_letsByOther_40 : decode cX2_letsByOther 40 = .ok (.sipush 255, 3) := dk_at k_dX2_letsByOther_0 (i := 24) rfl
theorem dX2_letsByOther_43 : decode cX2_letsByOther 43 = .ok (.ireturn, 1) := dk_at k_dX2_letsByOther_0 (i := 25) rfl
theorem dX2_letsByOther_44 : decode cX2_letsByOther 44 = .ok (.iload_n 2, 1) := dk_at k_dX2_letsByOther_0 (i := 26) rfl
theorem dX2_letsByOther_45 : decode cX2_letsByOther 45 = .ok (.ifCond .eq 13, 3) := dk_at k_dX2_letsByOther_0 (i := 27) rfl
theorem dX2_letsByOther_48 : decode cX2_letsByOther 48 = .ok (.aload_n 0, 1) := dk_at k_dX2_letsByOther_0 (i := 28) rfl
theorem dX2_letsByOther_49 : decode cX2_letsByOther 49 = .ok (.getfield 30, 3) := dk_at k_dX2_letsByOther_0 (i := 29) rfl
theorem dX2_letsByOther_52 : decode cX2_letsByOther 52 = .ok (.iload_n 1, 1) := dk_at k_dX2_letsByOther_0 (i := 30) rfl
theorem dX2_letsByOther_53 : decode cX2_letsByOther 53 = .ok (.iaload, 1) := dk_at k_dX2_letsByOther_0 (i := 31) rfl
theorem k_dX2_letsByOther_54 : dk cX2_letsByOther [(54, .ineg, 1), (55, .goto 9, 3), (58, .aload_n 0, 1), (59, .getfield 30, 3), (62, .iload_n 1, 1), (63, .iaload, 1), (64, .istore 4, 2), (66, .iload 4, 2), (68, .ifCond .lt 10, 3), (71, .iload_n 3, 1), (72, .iload 4, 2), (74, .ishl, 1), (75, .goto 8, 3), (78, .iload_n 3, 1), (79, .iload 4, 2), (81, .ineg, 1), (82, .ishr, 1), (83, .sipush 255, 3), (86, .iand, 1), (87, .ireturn, 1)] = true := by decide +kernel
theorem dX2_letsByOther_54 : decode cX2_letsByOther 54 = .ok (.ineg, 1) := dk_at k_dX2_letsByOther_54 (i := 0) rfl
theorem dX2_letsByOther_55 : decode cX2_letsByOther 55 = .ok (.goto 9, 3) := dk_at k_dX2_letsByOther_54 (i := 1) rfl
theorem dX2_letsByOther_58 : decode cX2_letsByOther 58 = .ok (.aload_n 0, 1) := dk_at k_dX2_letsByOther_54 (i := 2) rfl
theorem dX2_letsByOther_59 : decode cX2_letsByOther 59 = .ok (.getfield 30, 3) := dk_at k_dX2_letsByOther_54 (i := 3) rfl
theorem dX2_letsByOther_62 : decode cX2_letsByOther 62 = .ok (.iload_n 1, 1) := dk_at k_dX2_letsByOther_54 (i := 4) rfl
theorem dX2_letsByOther_63 : decode cX2_letsByOther 63 = .ok (.iaload, 1) := dk_at k_dX2_letsByOther_54 (i := 5) rfl
theorem dX2_letsByOther_64 : decode cX2_letsByOther 64 = .ok (.istore 4, 2) := dk_at k_dX2_letsByOther_54 (i := 6) rfl
theorem dX2_letsByOther_66 : decode cX2_letsByOther 66 = .ok (.iload 4, 2) := dk_at k_dX2_letsByOther_54 (i := 7) rfl
theorem dX2_letsByOther_68 : decode cX2_letsByOther 68 = .ok (.ifCond .lt 10, 3) := dk_at k_dX2_letsByOther_54 (i := 8) rfl
theorem dX2_letsByOther_71 : decode cX2_letsByOther 71 = .ok (.iload_n 3, 1) := dk_at k_dX2_letsByOther_54 (i := 9) rfl
theorem dX2_letsByOther_72 : decode cX2_letsByOther 72 = .ok (.iload 4, 2) := dk_at k_dX2_letsByOther_54 (i := 10) rfl
theorem dX2_letsByOther_74 : decode cX2_letsByOther 74 = .ok (.ishl, 1) := dk_at k_dX2_letsByOther_54 (i := 11) rfl
theorem dX2_letsByOther_75 : decode cX2_letsByOther 75 = .ok (.goto 8, 3) := dk_at k_dX2_letsByOther_54 (i := 12) rfl
theorem dX2_letsByOther_78 : decode cX2_letsByOther 78 = .ok (.iload_n 3, 1) := dk_at k_dX2_letsByOther_54 (i := 13) rfl
theorem dX2_letsByOther_79 : decode cX2_letsByOther 79 = .ok (.iload 4, 2) := dk_at k_dX2_letsByOther_54 (i := 14) rfl
theorem dX2_letsByOther_81 : decode cX2_letsByOther 81 = .ok (.ineg, 1) := dk_at k_dX2_letsByOther_54 (i := 15) rfl
theorem dX2_letsByOther_82 : decode cX2_letsByOther 82 = .ok (.ishr, 1) := dk_at k_dX2_letsByOther_54 (i := 16) rfl
theorem dX2_letsByOther_83 : decode cX2_letsByOther 83 = .ok (.sipush 255, 3) := dk_at k_dX2_letsByOther_54 (i := 17) rfl
theorem dX2_letsByOther_86 : decode cX2_letsByOther 86 = .ok (.iand, 1) := dk_at k_dX2_letsByOther_54 (i := 18) rfl
theorem dX2_letsByOther_87 : decode cX2_letsByOther 87 = .ok (.ireturn, 1) := dk_at k_dX2_letsByOther_54 (i := 19) rfl
theorem k_dX3_init_0 : dk cX3_init [(0, .aload_n 0, 1), (1, .invokespecial 3, 3), (4, .aload_n 0, 1), (5, .iconst 5, 1), (6, .newarray .int, 2), (8, .putfield 9, 3), (11, .aload_n 0, 1), (12, .aload_n 1, 1), (13, .putfield 15, 3), (16, .return_, 1)] = true := by decide +kernel
theorem dX3_init_0 : decode cX3_init 0 = .ok (.aload_n 0, 1) := dk_at k_dX3_init_0 (i := 0) rfl
theorem dX3_init_1 : decode cX3_init 1 = .ok (.invokespecial 3, 3) := dk_at k_dX3_init_0 (i := 1) rfl
theorem dX3_init_4 : decode cX3_init 4 = .ok (.aload_n 0, 1) := dk_at k_dX3_init_0 (i := 2) rfl
theorem dX3_init_5 : decode cX3_init 5 = .ok (.iconst 5, 1) := dk_at k_dX3_init_0 (i := 3) rfl
theorem dX3_init_6 : decode cX3_init 6 = .ok (.newarray .int, 2) := dk_at k_dX3_init_0 (i := 4) rfl
theorem dX3_init_8 : decode cX3_init 8 = .ok (.putfield 9, 3) := dk_at k_dX3_init_0 (i := 5) rfl
theorem dX3_init_11 : decode cX3_init 11 = .ok (.aload_n 0, 1) := dk_at k_dX3_init_0 (i := 6) rfl
theorem dX3_init_12 : decode cX3_init 12 = .ok (.aload_n 1, 1) := dk_at k_dX3_init_0 (i := 7) rfl
theorem dX3_init_13 : decode cX3_init 13 = .ok (.putfield 15, 3) := dk_at k_dX3_init_0 (i := 8) rfl
theorem dX3_init_16 : decode cX3_init 16 = .ok (.return_, 1) := dk_at k_dX3_init_0 (i := 9) rfl
theorem k_dX3_begin_0 : dk cX3_begin [(0, .aload_n 0, 1), (1, .getfield 9, 3), (4, .sipush 255, 3), (7, .invokestatic 19, 3), (10, .aload_n 0, 1), (11, .iload_n 1, 1), (12, .invokevirtual 25, 3), (15, .return_, 1)] = true := by decide +kernel
theorem dX3_begin_0 : decode cX3_begin 0 = .ok (.aload_n 0, 1) := dk_at k_dX3_begin_0 (i := 0) rfl
theorem dX3_begin_1 : decode cX3_begin 1 = .ok (.getfield 9, 3) := dk_at k_dX3_begin_0 (i := 1) rfl
theorem dX3_begin_4 : decode cX3_begin 4 = .ok (.sipush 255, 3) := dk_at k_dX3_begin_0 (i := 2) rfl
theorem dX3_begin_7 : decode cX3_begin 7 = .ok (.invokestatic 19, 3) := dk_at k_dX3_begin_0 (i := 3) rfl
theorem dX3_begin_10 : decode cX3_begin 10 = .ok (.aload_n 0, 1) := dk_at k_dX3_begin_0 (i := 4) rfl
theorem dX3_begin_11 : decode cX3_begin 11 = .ok (.iload_n 1, 1) := dk_at k_dX3_begin_0 (i := 5) rfl
theorem dX3_begin_12 : decode cX3_begin 12 = .ok (.invokevirtual 25, 3) := dk_at k_dX3_begin_0 (i := 6) rfl
theorem dX3_begin_15 : decode cX3_begin 15 = .ok (.return_, 1) := dk_at k_dX3_begin_0 (i := 7) rfl
theorem k_dX3_copy_0 : dk cX3_copy [(0, .aload_n 1, 1), (1, .getfield 9, 3), (4, .iconst 0, 1), (5, .aload_n 0, 1), (6, .getfield 9, 3), (9, .iconst 0, 1), (10, .iconst 5, 1), (11, .invokestatic 29, 3), (14, .aload_n 0, 1), (15, .aload_n 1, 1), (16, .getfield 35, 3), (19, .putfield 35, 3), (22, .return_, 1)] = true := by decide +kernel
theorem dX3_copy_0 : decode cX3_copy 0 = .ok (.aload_n 1, 1) := dk_at k_dX3_copy_0 (i := 0) rfl
theorem dX3_copy_1 : decode cX3_copy 1 = .ok (.getfield 9, 3) := dk_at k_dX3_copy_0 (i := 1) rfl
theorem dX3_copy_4 : decode cX3_copy 4 = .ok (.iconst 0, 1) := dk_at k_dX3_copy_0 (i := 2) rfl
theorem dX3_copy_5 : decode cX3_copy 5 = .ok (.aload_n 0, 1) := dk_at k_dX3_copy_0 (i := 3) rfl
theorem dX3_copy_6 : decode cX3_copy 6 = .ok (.getfield 9, 3) := dk_at k_dX3_copy_0 (i := 4) rfl
theorem dX3_copy_9 : decode cX3_copy 9 = .ok (.iconst 0, 1) := dk_at k_dX3_copy_0 (i := 5) rfl
theorem dX3_copy_10 : decode cX3_copy 10 = .ok (.iconst 5, 1) := dk_at k_dX3_copy_0 (i := 6) rfl
theorem dX3_copy_11 : decode cX3_copy 11 = .ok (.invokestatic 29, 3) := dk_at k_dX3_copy_0 (i := 7) rfl
theorem dX3_copy_14 : decode cX3_copy 14 = .ok (.aload_n 0, 1) := dk_at k_dX3_copy_0 (i := 8) rfl
theorem dX3_copy_15 : decode cX3_copy 15 = .ok (.aload_n 1, 1) := dk_at k_dX3_copy_0 (i := 9) rfl
theorem dX3_copy_16 : decode cX3_copy 16 = .ok (.getfield 35, 3) := dk_at k_dX3_copy_0 (i := 10) rfl
theorem dX3_copy_19 : decode cX3_copy 19 = .ok (.putfield 35, 3) := dk_at k_dX3_copy_0 (i := 11) rfl
theorem dX3_copy_22 : decode cX3_copy 22 = .ok (.return_, 1) := dk_at k_dX3_copy_0 (i := 12) rfl
theorem k_dX3_goOn_0 : dk cX3_goOn [(0, .iconst 1, 1), (1, .istore_n 2, 1), (2, .iconst 0, 1), (3, .istore_n 3, 1), (4, .iload_n 2, 1), (5, .ifCond .eq 58, 3), (8, .iload_n 3, 1), (9, .bipush 40, 2), (11, .if_icmp .gt 52, 3), (14, .iconst 0, 1), (15, .istore_n 2, 1), (16, .iconst 0, 1), (17, .istore 4, 2), (19, .iload 4, 2), (21, .aload_n 0, 1), (22, .getfield 15, 3), (25, .getfield 39, 3), (28, .if_icmp .ge 29, 3), (31, .iload_n 1, 1), (32, .iload 4, 2), (34, .invokestatic 45, 3), (37, .ifCond .eq 14, 3), (40, .aload_n 0, 1), (41, .iload 4, 2), (43, .invokevirtual 49, 3), (46, .ifCond .eq 5, 3), (49, .iconst 1, 1), (50, .istore_n 2, 1), (51, .iinc 4 1, 3), (54, .goto (-35), 3), (57, .iinc 3 1, 3), (60, .goto (-56), 3)] = true := by decide +kernel
theorem dX3_goOn_0 : decode cX3_goOn 0 = .ok (.iconst 1, 1) := dk_at k_dX3_goOn_0 (i := 0) rfl
theorem dX3_goOn_1 : decode cX3_goOn 1 = .ok (.istore_n 2, 1) := dk_at k_dX3_goOn_0 (i := 1) rfl
theorem dX3_goOn_2 : decode cX3_goOn 2 = .ok (.iconst 0, 1) := dk_at k_dX3_goOn_0 (i := 2) rfl
theorem dX3_goOn_3 : decode cX3_goOn 3 = .ok (.istore_n 3, 1) := dk_at k_dX3_goOn_0 (i := 3) rfl
theorem dX3_goOn_4 : decode cX3_goOn 4 = .ok (.iload_n 2, 1) := dk_at k_dX3_goOn_0 (i := 4) rfl
theorem dX3_goOn_5 : decode cX3_goOn 5 = .ok (.ifCond .eq 58, 3) := dk_at k_dX3_goOn_0 (i := 5) rfl
theorem dX3_goOn_8 : decode cX3_goOn 8 = .ok (.iload_n 3, 1) := dk_at k_dX3_goOn_0 (i := 6) rfl
theorem dX3_goOn_9 : decode cX3_goOn 9 = .ok (.bipush 40, 2) := dk_at k_dX3_goOn_0 (i := 7) rfl
theorem dX3_goOn_11 : decode cX3_goOn 11 = .ok (.if_icmp .gt 52, 3) := dk_at k_dX3_goOn_0 (i := 8) rfl
theorem dX3_goOn_14 : decode cX3_goOn 14 = .ok (.iconst 0, 1) := dk_at k_dX3_goOn_0 (i := 9) rfl
theorem dX3_goOn_15 : decode cX3_goOn 15 = .ok (.istore_n 2, 1) := dk_at k_dX3_goOn_0 (i := 10) rfl
theorem dX3_goOn_16 : decode cX3_goOn 16 = .ok (.iconst 0, 1) := dk_at k_dX3_goOn_0 (i := 11) rfl
theorem dX3_goOn_17 : decode cX3_goOn 17 = .ok (.istore 4, 2) := dk_at k_dX3_goOn_0 (i := 12) rfl
theorem dX3_goOn_19 : decode cX3_goOn 19 = .ok (.iload 4, 2) := dk_at k_dX3_goOn_0 (i := 13) rfl
theorem dX3_goOn_21 : decode cX3_goOn 21 = .ok (.aload_n 0, 1) := dk_at k_dX3_goOn_0 (i := 14) rfl
theorem dX3_goOn_22 : decode cX3_goOn 22 = .ok (.getfield 15, 3) := dk_at k_dX3_goOn_0 (i := 15) rfl
theorem dX3_goOn_25 : decode cX3_goOn 25 = .ok (.getfield 39, 3) := dk_at k_dX3_goOn_0 (i := 16) rfl
theorem dX3_goOn_28 : decode cX3_goOn 28 = .ok (.if_icmp .ge 29, 3) := dk_at k_dX3_goOn_0 (i := 17) rfl
theorem dX3_goOn_31 : decode cX3_goOn 31 = .ok (.iload_n 1, 1) := dk_at k_dX3_goOn_0 (i := 18) rfl
theorem dX3_goOn_32 : decode cX3_goOn 32 = .ok (.iload 4, 2) := dk_at k_dX3_goOn_0 (i := 19) rfl
theorem dX3_goOn_34 : decode cX3_goOn 34 = .ok (.invokestatic 45, 3) := dk_at k_dX3_goOn_0 (i := 20) rfl
theorem dX3_goOn_37 : decode cX3_goOn 37 = .ok (.ifCond .eq 14, 3) := dk_at k_dX3_goOn_0 (i := 21) rfl
theorem dX3_goOn_40 : decode cX3_goOn 40 = .ok (.aload_n 0, 1) := dk_at k_dX3_goOn_0 (i := 22) rfl
theorem dX3_goOn_41 : decode cX3_goOn 41 = .ok (.iload 4, 2) := dk_at k_dX3_goOn_0 (i := 23) rfl
theorem dX3_goOn_43 : decode cX3_goOn 43 = .ok (.invokevirtual 49, 3) := dk_at k_dX3_goOn_0 (i := 24) rfl
theorem dX3_goOn_46 : decode cX3_goOn 46 = .ok (.ifCond .eq 5, 3) := dk_at k_dX3_goOn_0 (i := 25) rfl
theorem dX3_goOn_49 : decode cX3_goOn 49 = .ok (.iconst 1, 1) := dk_at k_dX3_goOn_0 (i := 26) rfl
theorem dX3_goOn_50 : decode cX3_goOn 50 = .ok (.istore_n 2, 1) := dk_at k_dX3_goOn_0 (i := 27) rfl
theorem dX3_goOn_51 : decode cX3_goOn 51 = .ok (.iinc 4 1, 3) := dk_at k_dX3_goOn_0 (i := 28) rfl
theorem dX3_goOn_54 : decode cX3_goOn 54 = .ok (.goto (-35), 3) := dk_at k_dX3_goOn_0 (i := 29) rfl
theorem dX3_goOn_57 : decode cX3_goOn 57 = .ok (.iinc 3 1, 3) := dk_at k_dX3_goOn_0 (i := 30) rfl
theorem dX3_goOn_60 : decode cX3_goOn 60 = .ok (.goto (-56), 3) := dk_at k_dX3_goOn_0 (i := 31) rfl
theorem k_dX3_goOn_63 : dk cX3_goOn [(63, .aload_n 0, 1), (64, .iconst 0, 1), (65, .putfield 35, 3), (68, .iconst 0, 1), (69, .istore_n 3, 1), (70, .iload_n 3, 1), (71, .aload_n 0, 1), (72, .getfield 15, 3), (75, .getfield 53, 3), (78, .if_icmp .ge 23, 3), (81, .aload_n 0, 1), (82, .getfield 9, 3), (85, .iload_n 3, 1), (86, .iaload, 1), (87, .ifCond .ne 8, 3), (90, .aload_n 0, 1), (91, .iconst 1, 1), (92, .putfield 35, 3), (95, .iinc 3 1, 3), (98, .goto (-28), 3), (101, .aload_n 0, 1), (102, .getfield 35, 3), (105, .ifCond .eq 11, 3), (108, .aload_n 0, 1), (109, .getfield 9, 3), (112, .iconst 0, 1), (113, .invokestatic 19, 3), (116, .return_, 1)] = true := by decide +kernel
theorem dX3_goOn_63 : decode cX3_goOn 63 = .ok (.aload_n 0, 1) := dk_at k_dX3_goOn_63 (i := 0) rfl
theorem dX3_goOn_64 : decode cX3_goOn 64 = .ok (.iconst 0, 1) := dk_at k_dX3_goOn_63 (i := 1) rfl
theorem dX3_goOn_65 : decode cX3_goOn 65 = .ok (.putfield 35, 3) := dk_at k_dX3_goOn_63 (i := 2) rfl
theorem dX3_goOn_68 : decode cX3_goOn 68 = .ok (.iconst 0, 1) := dk_at k_dX3_goOn_63 (i := 3) rfl
theorem dX3_goOn_69 : decode cX3_goOn 69 = .ok (.istore_n 3, 1) := dk_at k_dX3_goOn_63 (i := 4) rfl
theorem dX3_goOn_70 : decode cX3_goOn 70 = .ok (.iload_n 3, 1) := dk_at k_dX3_goOn_63 (i := 5) rfl
theorem dX3_goOn_71 : decode cX3_goOn 71 = .ok (.aload_n 0, 1) := dk_at k_dX3_goOn_63 (i := 6) rfl
theorem dX3_goOn_72 : decode cX3_goOn 72 = .ok (.getfield 15, 3) := dk_at k_dX3_goOn_63 (i := 7) rfl
theorem dX3_goOn_75 : decode cX3_goOn 75 = .ok (.getfield 53, 3) := dk_at k_dX3_goOn_63 (i := 8) rfl
theorem dX3_goOn_78 : decode cX3_goOn 78 = .ok (.if_icmp .ge 23, 3) := dk_at k_dX3_goOn_63 (i := 9) rfl
theorem dX3_goOn_81 : decode cX3_goOn 81 = .ok (.aload_n 0, 1) := dk_at k_dX3_goOn_63 (i := 10) rfl
theorem dX3_goOn_82 : decode cX3_goOn 82 = .ok (.getfield 9, 3) := dk_at k_dX3_goOn_63 (i := 11) rfl
theorem dX3_goOn_85 : decode cX3_goOn 85 = .ok (.iload_n 3, 1) := dk_at k_dX3_goOn_63 (i := 12) rfl
theorem dX3_goOn_86 : decode cX3_goOn 86 = .ok (.iaload, 1) := dk_at k_dX3_goOn_63 (i := 13) rfl
theorem dX3_goOn_87 : decode cX3_goOn 87 = .ok (.ifCond .ne 8, 3) := dk_at k_dX3_goOn_63 (i := 14) rfl
theorem dX3_goOn_90 : decode cX3_goOn 90 = .ok (.aload_n 0, 1) := dk_at k_dX3_goOn_63 (i := 15) rfl
theorem dX3_goOn_91 : decode cX3_goOn 91 = .ok (.iconst 1, 1) := dk_at k_dX3_goOn_63 (i := 16) rfl
theorem dX3_goOn_92 : decode cX3_goOn 92 = .ok (.putfield 35, 3) := dk_at k_dX3_goOn_63 (i := 17) rfl
theorem dX3_goOn_95 : decode cX3_goOn 95 = .ok (.iinc 3 1, 3) := dk_at k_dX3_goOn_63 (i := 18) rfl
theorem dX3_goOn_98 : decode cX3_goOn 98 = .ok (.goto (-28), 3) := dk_at k_dX3_goOn_63 (i := 19) rfl
theorem dX3_goOn_101 : decode cX3_goOn 101 = .ok (.aload_n 0, 1) := dk_at k_dX3_goOn_63 (i := 20) rfl
theorem dX3_goOn_102 : decode cX3_goOn 102 = .ok (.getfield 35, 3) := dk_at k_dX3_goOn_63 (i := 21) rfl
theorem dX3_goOn_105 : decode cX3_goOn 105 = .ok (.ifCond .eq 11, 3) := dk_at k_dX3_goOn_63 (i := 22) rfl
theorem dX3_goOn_108 : decode cX3_goOn 108 = .ok (.aload_n 0, 1) := dk_at k_dX3_goOn_63 (i := 23) rfl
theorem dX3_goOn_109 : decode cX3_goOn 109 = .ok (.getfield 9, 3) := dk_at k_dX3_goOn_63 (i := 24) rfl
theorem dX3_goOn_112 : decode cX3_goOn 112 = .ok (.iconst 0, 1) := dk_at k_dX3_goOn_63 (i := 25) rfl
theorem dX3_goOn_113 : decode cX3_goOn 113 = .ok (.invokestatic 19, 3) := dk_at k_dX3_goOn_63 (i := 26) rfl
theorem dX3_goOn_116 : decode cX3_goOn 116 = .ok (.return_, 1) := dk_at k_dX3_goOn_63 (i := 27) rfl
theorem k_dX3_takesAway_0 : dk cX3_takesAway [(0, .aload_n 0, 1), (1, .getfield 15, 3), (4, .getfield 56, 3), (7, .iload_n 1, 1), (8, .iaload, 1), (9, .istore_n 2, 1), (10, .aload_n 0, 1), (11, .getfield 9, 3), (14, .iload_n 2, 1), (15, .iaload, 1), (16, .istore_n 3, 1), (17, .aload_n 0, 1), (18, .getfield 15, 3), (21, .iload_n 1, 1), (22, .invokevirtual 59, 3), (25, .ifCond .ne 35, 3), (28, .aload_n 0, 1), (29, .getfield 9, 3), (32, .iload_n 2, 1), (33, .iload_n 3, 1), (34, .aload_n 0, 1), (35, .getfield 15, 3), (38, .iload_n 1, 1), (39, .invokevirtual 62, 3), (42, .iand, 1), (43, .iastore, 1), (44, .aload_n 0, 1), (45, .getfield 9, 3), (48, .iload_n 2, 1), (49, .iaload, 1), (50, .iload_n 3, 1), (51, .if_icmp .eq 7, 3)] = true := by decide +kernel
theorem dX3_takesAway_0 : decode cX3_takesAway 0 = .ok (.aload_n 0, 1) := dk_at k_dX3_takesAway_0 (i := 0) rfl
theorem dX3_takesAway_1 : decode cX3_takesAway 1 = .ok (.getfield 15, 3) := dk_at k_dX3_takesAway_0 (i := 1) rfl
theorem dX3_takesAway_4 : decode cX3_takesAway 4 = .ok (.getfield 56, 3) := dk_at k_dX3_takesAway_0 (i := 2) rfl
theorem dX3_takesAway_7 : decode cX3_takesAway 7 = .ok (.iload_n 1, 1) := dk_at k_dX3_takesAway_0 (i := 3) rfl
theorem dX3_takesAway_8 : decode cX3_takesAway 8 = .ok (.iaload, 1) := dk_at k_dX3_takesAway_0 (i := 4) rfl
theorem dX3_takesAway_9 : decode cX3_takesAway 9 = .ok (.istore_n 2, 1) := dk_at k_dX3_takesAway_0 (i := 5) rfl
theorem dX3_takesAway_10 : decode cX3_takesAway 10 = .ok (.aload_n 0, 1) := dk_at k_dX3_takesAway_0 (i := 6) rfl
theorem dX3_takesAway_11 : decode cX3_takesAway 11 = .ok (.getfield 9, 3) := dk_at k_dX3_takesAway_0 (i := 7) rfl
theorem dX3_takesAway_14 : decode cX3_takesAway 14 = .ok (.iload_n 2, 1) := dk_at k_dX3_takesAway_0 (i := 8) rfl
theorem dX3_takesAway_15 : decode cX3_takesAway 15 = .ok (.iaload, 1) := dk_at k_dX3_takesAway_0 (i := 9) rfl
theorem dX3_takesAway_16 : decode cX3_takesAway 16 = .ok (.istore_n 3, 1) := dk_at k_dX3_takesAway_0 (i := 10) rfl
theorem dX3_takesAway_17 : decode cX3_takesAway 17 = .ok (.aload_n 0, 1) := dk_at k_dX3_takesAway_0 (i := 11) rfl
theorem dX3_takesAway_18 : decode cX3_takesAway 18 = .ok (.getfield 15, 3) := dk_at k_dX3_takesAway_0 (i := 12) rfl
theorem dX3_takesAway_21 : decode cX3_takesAway 21 = .ok (.iload_n 1, 1) := dk_at k_dX3_takesAway_0 (i := 13) rfl
theorem dX3_takesAway_22 : decode cX3_takesAway 22 = .ok (.invokevirtual 59, 3) := dk_at k_dX3_takesAway_0 (i := 14) rfl
theorem dX3_takesAway_25 : decode cX3_takesAway 25 = .ok (.ifCond .ne 35, 3) := dk_at k_dX3_takesAway_0 (i := 15) rfl
theorem dX3_takesAway_28 : decode cX3_takesAway 28 = .ok (.aload_n 0, 1) := dk_at k_dX3_takesAway_0 (i := 16) rfl
theorem dX3_takesAway_29 : decode cX3_takesAway 29 = .ok (.getfield 9, 3) := dk_at k_dX3_takesAway_0 (i := 17) rfl
theorem dX3_takesAway_32 : decode cX3_takesAway 32 = .ok (.iload_n 2, 1) := dk_at k_dX3_takesAway_0 (i := 18) rfl
theorem dX3_takesAway_33 : decode cX3_takesAway 33 = .ok (.iload_n 3, 1) := dk_at k_dX3_takesAway_0 (i := 19) rfl
theorem dX3_takesAway_34 : decode cX3_takesAway 34 = .ok (.aload_n 0, 1) := dk_at k_dX3_takesAway_0 (i := 20) rfl
theorem dX3_takesAway_35 : decode cX3_takesAway 35 = .ok (.getfield 15, 3) := dk_at k_dX3_takesAway_0 (i := 21) rfl
theorem dX3_takesAway_38 : decode cX3_takesAway 38 = .ok (.iload_n 1, 1) := dk_at k_dX3_takesAway_0 (i := 22) rfl
theorem dX3_takesAway_39 : decode cX3_takesAway 39 = .ok (.invokevirtual 62, 3) := dk_at k_dX3_takesAway_0 (i := 23) rfl
theorem dX3_takesAway_42 : decode cX3_takesAway 42 = .ok (.iand, 1) := dk_at k_dX3_takesAway_0 (i := 24) rfl
theorem dX3_takesAway_43 : decode cX3_takesAway 43 = .ok (.iastore, 1) := dk_at k_dX3_takesAway_0 (i := 25) rfl
theorem dX3_takesAway_44 : decode cX3_takesAway 44 = .ok (.aload_n 0, 1) := dk_at k_dX3_takesAway_0 (i := 26) rfl
theorem dX3_takesAway_45 : decode cX3_takesAway 45 = .ok (.getfield 9, 3) := dk_at k_dX3_takesAway_0 (i := 27) rfl
theorem dX3_takesAway_48 : decode cX3_takesAway 48 = .ok (.iload_n 2, 1) := dk_at k_dX3_takesAway_0 (i := 28) rfl
theorem dX3_takesAway_49 : decode cX3_takesAway 49 = .ok (.iaload, 1) := dk_at k_dX3_takesAway_0 (i := 29) rfl
theorem dX3_takesAway_50 : decode cX3_takesAway 50 = .ok (.iload_n 3, 1) := dk_at k_dX3_takesAway_0 (i := 30) rfl
theorem dX3_takesAway_51 : decode cX3_takesAway 51 = .ok (.if_icmp .eq 7, 3) := dk_at k_dX3_takesAway_0 (i := 31) rfl
theorem k_dX3_takesAway_54 : dk cX3_takesAway [(54, .iconst 1, 1), (55, .goto 4, 3), (58, .iconst 0, 1), (59, .ireturn, 1), (60, .aload_n 0, 1), (61, .getfield 15, 3), (64, .getfield 66, 3), (67, .iload_n 1, 1), (68, .iaload, 1), (69, .istore 4, 2), (71, .aload_n 0, 1), (72, .getfield 9, 3), (75, .iload 4, 2), (77, .iaload, 1), (78, .istore 5, 2), (80, .aload_n 0, 1), (81, .getfield 9, 3), (84, .iload_n 2, 1), (85, .iload_n 3, 1), (86, .aload_n 0, 1), (87, .getfield 15, 3), (90, .iload_n 1, 1), (91, .iconst 0, 1), (92, .iload 5, 2), (94, .invokevirtual 69, 3), (97, .iand, 1), (98, .iastore, 1), (99, .aload_n 0, 1), (100, .getfield 9, 3), (103, .iload 4, 2), (105, .iload 5, 2), (107, .aload_n 0, 1)] = true := by decide +kernel
theorem dX3_takesAway_54 : decode cX3_takesAway 54 = .ok (.iconst 1, 1) := dk_at k_dX3_takesAway_54 (i := 0) rfl
theorem dX3_takesAway_55 : decode cX3_takesAway 55 = .ok (.goto 4, 3) := dk_at k_dX3_takesAway_54 (i := 1) rfl
theorem dX3_takesAway_58 : decode cX3_takesAway 58 = .ok (.iconst 0, 1) := dk_at k_dX3_takesAway_54 (i := 2) rfl
theorem dX3_takesAway_59 : decode cX3_takesAway 59 = .ok (.ireturn, 1) := dk_at k_dX3_takesAway_54 (i := 3) rfl
theorem dX3_takesAway_60 : decode cX3_takesAway 60 = .ok (.aload_n 0, 1) := dk_at k_dX3_takesAway_54 (i := 4) rfl
theorem dX3_takesAway_61 : decode cX3_takesAway 61 = .ok (.getfield 15, 3) := dk_at k_dX3_takesAway_54 (i := 5) rfl
theorem dX3_takesAway_64 : decode cX3_takesAway 64 = .ok (.getfield 66, 3) := dk_at k_dX3_takesAway_54 (i := 6) rfl
theorem dX3_takesAway_67 : decode cX3_takesAway 67 = .ok (.iload_n 1, 1) := dk_at k_dX3_takesAway_54 (i := 7) rfl
theorem dX3_takesAway_68 : decode cX3_takesAway 68 = .ok (.iaload, 1) := dk_at k_dX3_takesAway_54 (i := 8) rfl
theorem dX3_takesAway_69 : decode cX3_takesAway 69 = .ok (.istore 4, 2) := dk_at k_dX3_takesAway_54 (i := 9) rfl
theorem dX3_takesAway_71 : decode cX3_takesAway 71 = .ok (.aload_n 0, 1) := dk_at k_dX3_takesAway_54 (i := 10) rfl
theorem dX3_takesAway_72 : decode cX3_takesAway 72 = .ok (.getfield 9, 3) := dk_at k_dX3_takesAway_54 (i := 11) rfl
theorem dX3_takesAway_75 : decode cX3_takesAway 75 = .ok (.iload 4, 2) := dk_at k_dX3_takesAway_54 (i := 12) rfl
theorem dX3_takesAway_77 : decode cX3_takesAway 77 = .ok (.iaload, 1) := dk_at k_dX3_takesAway_54 (i := 13) rfl
theorem dX3_takesAway_78 : decode cX3_takesAway 78 = .ok (.istore 5, 2) := dk_at k_dX3_takesAway_54 (i := 14) rfl
theorem dX3_takesAway_80 : decode cX3_takesAway 80 = .ok (.aload_n 0, 1) := dk_at k_dX3_takesAway_54 (i := 15) rfl
theorem dX3_takesAway_81 : decode cX3_takesAway 81 = .ok (.getfield 9, 3) := dk_at k_dX3_takesAway_54 (i := 16) rfl
theorem dX3_takesAway_84 : decode cX3_takesAway 84 = .ok (.iload_n 2, 1) := dk_at k_dX3_takesAway_54 (i := 17) rfl
theorem dX3_takesAway_85 : decode cX3_takesAway 85 = .ok (.iload_n 3, 1) := dk_at k_dX3_takesAway_54 (i := 18) rfl
theorem dX3_takesAway_86 : decode cX3_takesAway 86 = .ok (.aload_n 0, 1) := dk_at k_dX3_takesAway_54 (i := 19) rfl
theorem dX3_takesAway_87 : decode cX3_takesAway 87 = .ok (.getfield 15, 3) := dk_at k_dX3_takesAway_54 (i := 20) rfl
theorem dX3_takesAway_90 : decode cX3_takesAway 90 = .ok (.iload_n 1, 1) := dk_at k_dX3_takesAway_54 (i := 21) rfl
theorem dX3_takesAway_91 : decode cX3_takesAway 91 = .ok (.iconst 0, 1) := dk_at k_dX3_takesAway_54 (i := 22) rfl
theorem dX3_takesAway_92 : decode cX3_takesAway 92 = .ok (.iload 5, 2) := dk_at k_dX3_takesAway_54 (i := 23) rfl
theorem dX3_takesAway_94 : decode cX3_takesAway 94 = .ok (.invokevirtual 69, 3) := dk_at k_dX3_takesAway_54 (i := 24) rfl
theorem dX3_takesAway_97 : decode cX3_takesAway 97 = .ok (.iand, 1) := dk_at k_dX3_takesAway_54 (i := 25) rfl
theorem dX3_takesAway_98 : decode cX3_takesAway 98 = .ok (.iastore, 1) := dk_at k_dX3_takesAway_54 (i := 26) rfl
theorem dX3_takesAway_99 : decode cX3_takesAway 99 = .ok (.aload_n 0, 1) := dk_at k_dX3_takesAway_54 (i := 27) rfl
theorem dX3_takesAway_100 : decode cX3_takesAway 100 = .ok (.getfield 9, 3) := dk_at k_dX3_takesAway_54 (i := 28) rfl
theorem dX3_takesAway_103 : decode cX3_takesAway 103 = .ok (.iload 4, 2) := dk_at k_dX3_takesAway_54 (i := 29) rfl
theorem dX3_takesAway_105 : decode cX3_takesAway 105 = .ok (.iload 5, 2) := dk_at k_dX3_takesAway_54 (i := 30) rfl
theorem dX3_takesAway_107 : decode cX3_takesAway 107 = .ok (.aload_n 0, 1) := dk_at k_dX3_takesAway_54 (i := 31) rfl
theorem k_dX3_takesAway_108 : dk cX3_takesAway [(108, .getfield 15, 3), (111, .iload_n 1, 1), (112, .iconst 1, 1), (113, .aload_n 0, 1), (114, .getfield 9, 3), (117, .iload_n 2, 1), (118, .iaload, 1), (119, .invokevirtual 69, 3), (122, .iand, 1), (123, .iastore, 1), (124, .aload_n 0, 1), (125, .getfield 9, 3), (128, .iload_n 2, 1), (129, .iaload, 1), (130, .iload_n 3, 1), (131, .if_icmp .ne 15, 3), (134, .aload_n 0, 1), (135, .getfield 9, 3), (138, .iload 4, 2), (140, .iaload, 1), (141, .iload 5, 2), (143, .if_icmp .eq 7, 3), (146, .iconst 1, 1), (147, .goto 4, 3), (150, .iconst 0, 1), (151, .ireturn, 1)] = true := by decide +kernel
theorem dX3_takesAway_108 : decode cX3_takesAway 108 = .ok (.getfield 15, 3) := dk_at k_dX3_takesAway_108 (i := 0) rfl
theorem dX3_takesAway_111 : decode cX3_takesAway 111 = .ok (.iload_n 1, 1) := dk_at k_dX3_takesAway_108 (i := 1) rfl
theorem dX3_takesAway_112 : decode cX3_takesAway 112 = .ok (.iconst 1, 1) := dk_at k_dX3_takesAway_108 (i := 2) rfl
theorem dX3_takesAway_113 : decode cX3_takesAway 113 = .ok (.aload_n 0, 1) := dk_at k_dX3_takesAway_108 (i := 3) rfl
theorem dX3_takesAway_114 : decode cX3_takesAway 114 = .ok (.getfield 9, 3) := dk_at k_dX3_takesAway_108 (i := 4) rfl
theorem dX3_takesAway_117 : decode cX3_takesAway 117 = .ok (.iload_n 2, 1) := dk_at k_dX3_takesAway_108 (i := 5) rfl
theorem dX3_takesAway_118 : decode cX3_takesAway 118 = .ok (.iaload, 1) := dk_at k_dX3_takesAway_108 (i := 6) rfl
theorem dX3_takesAway_119 : decode cX3_takesAway 119 = .ok (.invokevirtual 69, 3) := dk_at k_dX3_takesAway_108 (i := 7) rfl
theorem dX3_takesAway_122 : decode cX3_takesAway 122 = .ok (.iand, 1) := dk_at k_dX3_takesAway_108 (i := 8) rfl
theorem dX3_takesAway_123 : decode cX3_takesAway 123 = .ok (.iastore, 1) := dk_at k_dX3_takesAway_108 (i := 9) rfl
theorem dX3_takesAway_124 : decode cX3_takesAway 124 = .ok (.aload_n 0, 1) := dk_at k_dX3_takesAway_108 (i := 10) rfl
theorem dX3_takesAway_125 : decode cX3_takesAway 125 = .ok (.getfield 9, 3) := dk_at k_dX3_takesAway_108 (i := 11) rfl
theorem dX3_takesAway_128 : decode cX3_takesAway 128 = .ok (.iload_n 2, 1) := dk_at k_dX3_takesAway_108 (i := 12) rfl
theorem dX3_takesAway_129 : decode cX3_takesAway 129 = .ok (.iaload, 1) := dk_at k_dX3_takesAway_108 (i := 13) rfl
theorem dX3_takesAway_130 : decode cX3_takesAway 130 = .ok (.iload_n 3, 1) := dk_at k_dX3_takesAway_108 (i := 14) rfl
theorem dX3_takesAway_131 : decode cX3_takesAway 131 = .ok (.if_icmp .ne 15, 3) := dk_at k_dX3_takesAway_108 (i := 15) rfl
theorem dX3_takesAway_134 : decode cX3_takesAway 134 = .ok (.aload_n 0, 1) := dk_at k_dX3_takesAway_108 (i := 16) rfl
theorem dX3_takesAway_135 : decode cX3_takesAway 135 = .ok (.getfield 9, 3) := dk_at k_dX3_takesAway_108 (i := 17) rfl
theorem dX3_takesAway_138 : decode cX3_takesAway 138 = .ok (.iload 4, 2) := dk_at k_dX3_takesAway_108 (i := 18) rfl
theorem dX3_takesAway_140 : decode cX3_takesAway 140 = .ok (.iaload, 1) := dk_at k_dX3_takesAway_108 (i := 19) rfl
theorem dX3_takesAway_141 : decode cX3_takesAway 141 = .ok (.iload 5, 2) := dk_at k_dX3_takesAway_108 (i := 20) rfl
theorem dX3_takesAway_143 : decode cX3_takesAway 143 = .ok (.if_icmp .eq 7, 3) := dk_at k_dX3_takesAway_108 (i := 21) rfl
theorem dX3_takesAway_146 : decode cX3_takesAway 146 = .ok (.iconst 1, 1) := dk_at k_dX3_takesAway_108 (i := 22) rfl
theorem dX3_takesAway_147 : decode cX3_takesAway 147 = .ok (.goto 4, 3) := dk_at k_dX3_takesAway_108 (i := 23) rfl
theorem dX3_takesAway_150 : decode cX3_takesAway 150 = .ok (.iconst 0, 1) := dk_at k_dX3_takesAway_108 (i := 24) rfl
theorem dX3_takesAway_151 : decode cX3_takesAway 151 = .ok (.ireturn, 1) := dk_at k_dX3_takesAway_108 (i := 25) rfl
theorem k_dX4_init_0 : dk cX4_init [(0, .aload_n 0, 1), (1, .invokespecial 3, 3), (4, .aload_n 0, 1), (5, .iconst 5, 1), (6, .newarray .int, 2), (8, .putfield 9, 3), (11, .aload_n 0, 1), (12, .aload_n 1, 1), (13, .putfield 15, 3), (16, .aload_n 0, 1), (17, .new 19, 3), (20, .dup, 1), (21, .aload_n 1, 1), (22, .invokespecial 21, 3), (25, .putfield 24, 3), (28, .aload_n 0, 1), (29, .new 19, 3), (32, .dup, 1), (33, .aload_n 1, 1), (34, .invokespecial 21, 3), (37, .putfield 28, 3), (40, .aload_n 0, 1), (41, .new 19, 3), (44, .dup, 1), (45, .aload_n 1, 1), (46, .invokespecial 21, 3), (49, .putfield 31, 3), (52, .aload_n 0, 1), (53, .new 34, 3), (56, .dup, 1), (57, .aload_n 1, 1), (58, .invokespecial 36, 3)] = true := by decide +kernel
theorem dX4_init_0 : decode cX4_init 0 = .ok (.aload_n 0, 1) := dk_at k_dX4_init_0 (i := 0) rfl
theorem dX4_init_1 : decode cX4_init 1 = .ok (.invokespecial 3, 3) := dk_at k_dX4_init_0 (i := 1) rfl
theorem dX4_init_4 : decode cX4_init 4 = .ok (.aload_n 0, 1) := dk_at k_dX4_init_0 (i := 2) rfl
theorem dX4_init_5 : decode cX4_init 5 = .ok (.iconst 5, 1) := dk_at k_dX4_init_0 (i := 3) rfl
theorem dX4_init_6 : decode cX4_init 6 = .ok (.newarray .int, 2) := dk_at k_dX4_init_0 (i := 4) rfl
theorem dX4_init_8 : decode cX4_init 8 = .ok (.putfield 9, 3) := dk_at k_dX4_init_0 (i := 5) rfl
theorem dX4_init_11 : decode cX4_init 11 = .ok (.aload_n 0, 1) := dk_at k_dX4_init_0 (i := 6) rfl
theorem dX4_init_12 : decode cX4_init 12 = .ok (.aload_n 1, 1) := dk_at k_dX4_init_0 (i := 7) rfl
theorem dX4_init_13 : decode cX4_init 13 = .ok (.putfield 15, 3) := dk_at k_dX4_init_0 (i := 8) rfl
theorem dX4_init_16 : decode cX4_init 16 = .ok (.aload_n 0, 1) := dk_at k_dX4_init_0 (i := 9) rfl
theorem dX4_init_17 : decode cX4_init 17 = .ok (.new 19, 3) := dk_at k_dX4_init_0 (i := 10) rfl
theorem dX4_init_20 : decode cX4_init 20 = .ok (.dup, 1) := dk_at k_dX4_init_0 (i := 11) rfl
theorem dX4_init_21 : decode cX4_init 21 = .ok (.aload_n 1, 1) := dk_at k_dX4_init_0 (i := 12) rfl
theorem dX4_init_22 : decode cX4_init 22 = .ok (.invokespecial 21, 3) := dk_at k_dX4_init_0 (i := 13) rfl
theorem dX4_init_25 : decode cX4_init 25 = .ok (.putfield 24, 3) := dk_at k_dX4_init_0 (i := 14) rfl
theorem dX4_init_28 : decode cX4_init 28 = .ok (.aload_n 0, 1) := dk_at k_dX4_init_0 (i := 15) rfl
theorem dX4_init_29 : decode cX4_init 29 = .ok (.new 19, 3) := dk_at k_dX4_init_0 (i := 16) rfl
theorem dX4_init_32 : decode cX4_init 32 = .ok (.dup, 1) := dk_at k_dX4_init_0 (i := 17) rfl
theorem dX4_init_33 : decode cX4_init 33 = .ok (.aload_n 1, 1) := dk_at k_dX4_init_0 (i := 18) rfl
theorem dX4_init_34 : decode cX4_init 34 = .ok (.invokespecial 21, 3) := dk_at k_dX4_init_0 (i := 19) rfl
theorem dX4_init_37 : decode cX4_init 37 = .ok (.putfield 28, 3) := dk_at k_dX4_init_0 (i := 20) rfl
theorem dX4_init_40 : decode cX4_init 40 = .ok (.aload_n 0, 1) := dk_at k_dX4_init_0 (i := 21) rfl
theorem dX4_init_41 : decode cX4_init 41 = .ok (.new 19, 3) := dk_at k_dX4_init_0 (i := 22) rfl
theorem dX4_init_44 : decode cX4_init 44 = .ok (.dup, 1) := dk_at k_dX4_init_0 (i := 23) rfl
theorem dX4_init_45 : decode cX4_init 45 = .ok (.aload_n 1, 1) := dk_at k_dX4_init_0 (i := 24) rfl
theorem dX4_init_46 : decode cX4_init 46 = .ok (.invokespecial 21, 3) := dk_at k_dX4_init_0 (i := 25) rfl
theorem dX4_init_49 : decode cX4_init 49 = .ok (.putfield 31, 3) := dk_at k_dX4_init_0 (i := 26) rfl
theorem dX4_init_52 : decode cX4_init 52 = .ok (.aload_n 0, 1) := dk_at k_dX4_init_0 (i := 27) rfl
theorem dX4_init_53 : decode cX4_init 53 = .ok (.new 34, 3) := dk_at k_dX4_init_0 (i := 28) rfl
theorem dX4_init_56 : decode cX4_init 56 = .ok (.dup, 1) := dk_at k_dX4_init_0 (i := 29) rfl
theorem dX4_init_57 : decode cX4_init 57 = .ok (.aload_n 1, 1) := dk_at k_dX4_init_0 (i := 30) rfl
theorem dX4_init_58 : decode cX4_init 58 = .ok (.invokespecial 36, 3) := dk_at k_dX4_init_0 (i := 31) rfl
theorem k_dX4_init_61 : dk cX4_init [(61, .putfield 37, 3), (64, .aload_n 0, 1), (65, .getfield 9, 3), (68, .iconst (-1), 1), (69, .invokestatic 41, 3), (72, .return_, 1)] = true := by decide +kernel
theorem dX4_init_61 : decode cX4_init 61 = .ok (.putfield 37, 3) := dk_at k_dX4_init_61 (i := 0) rfl
theorem dX4_init_64 : decode cX4_init 64 = .ok (.aload_n 0, 1) := dk_at k_dX4_init_61 (i := 1) rfl
theorem dX4_init_65 : decode cX4_init 65 = .ok (.getfield 9, 3) := dk_at k_dX4_init_61 (i := 2) rfl
theorem dX4_init_68 : decode cX4_init 68 = .ok (.iconst (-1), 1) := dk_at k_dX4_init_61 (i := 3) rfl
theorem dX4_init_69 : decode cX4_init 69 = .ok (.invokestatic 41, 3) := dk_at k_dX4_init_61 (i := 4) rfl
theorem dX4_init_72 : decode cX4_init 72 = .ok (.return_, 1) := dk_at k_dX4_init_61 (i := 5) rfl
theorem k_dX4_renew_0 : dk cX4_renew [(0, .aload_n 0, 1), (1, .aload_n 0, 1), (2, .getfield 15, 3), (5, .invokevirtual 47, 3), (8, .putfield 53, 3), (11, .aload_n 0, 1), (12, .getfield 24, 3), (15, .aload_n 0, 1), (16, .getfield 53, 3), (19, .invokevirtual 57, 3), (22, .aload_n 0, 1), (23, .getfield 37, 3), (26, .aload_n 0, 1), (27, .getfield 24, 3), (30, .aload_n 0, 1), (31, .getfield 53, 3), (34, .invokevirtual 61, 3), (37, .aload_n 0, 1), (38, .getfield 31, 3), (41, .aload_n 0, 1), (42, .getfield 24, 3), (45, .invokevirtual 65, 3), (48, .iconst 0, 1), (49, .istore_n 1, 1), (50, .iload_n 1, 1), (51, .aload_n 0, 1), (52, .getfield 15, 3), (55, .getfield 69, 3), (58, .if_icmp .ge 14, 3), (61, .aload_n 0, 1), (62, .iload_n 1, 1), (63, .invokevirtual 72, 3)] = true := by decide +kernel
theorem dX4_renew_0 : decode cX4_renew 0 = .ok (.aload_n 0, 1) := dk_at k_dX4_renew_0 (i := 0) rfl
theorem dX4_renew_1 : decode cX4_renew 1 = .ok (.aload_n 0, 1) := dk_at k_dX4_renew_0 (i := 1) rfl
theorem dX4_renew_2 : decode cX4_renew 2 = .ok (.getfield 15, 3) := dk_at k_dX4_renew_0 (i := 2) rfl
theorem dX4_renew_5 : decode cX4_renew 5 = .ok (.invokevirtual 47, 3) := dk_at k_dX4_renew_0 (i := 3) rfl
theorem dX4_renew_8 : decode cX4_renew 8 = .ok (.putfield 53, 3) := dk_at k_dX4_renew_0 (i := 4) rfl
theorem dX4_renew_11 : decode cX4_renew 11 = .ok (.aload_n 0, 1) := dk_at k_dX4_renew_0 (i := 5) rfl
theorem dX4_renew_12 : decode cX4_renew 12 = .ok (.getfield 24, 3) := dk_at k_dX4_renew_0 (i := 6) rfl
theorem dX4_renew_15 : decode cX4_renew 15 = .ok (.aload_n 0, 1) := dk_at k_dX4_renew_0 (i := 7) rfl
theorem dX4_renew_16 : decode cX4_renew 16 = .ok (.getfield 53, 3) := dk_at k_dX4_renew_0 (i := 8) rfl
theorem dX4_renew_19 : decode cX4_renew 19 = .ok (.invokevirtual 57, 3) := dk_at k_dX4_renew_0 (i := 9) rfl
theorem dX4_renew_22 : decode cX4_renew 22 = .ok (.aload_n 0, 1) := dk_at k_dX4_renew_0 (i := 10) rfl
theorem dX4_renew_23 : decode cX4_renew 23 = .ok (.getfield 37, 3) := dk_at k_dX4_renew_0 (i := 11) rfl
theorem dX4_renew_26 : decode cX4_renew 26 = .ok (.aload_n 0, 1) := dk_at k_dX4_renew_0 (i := 12) rfl
theorem dX4_renew_27 : decode cX4_renew 27 = .ok (.getfield 24, 3) := dk_at k_dX4_renew_0 (i := 13) rfl
theorem dX4_renew_30 : decode cX4_renew 30 = .ok (.aload_n 0, 1) := dk_at k_dX4_renew_0 (i := 14) rfl
theorem dX4_renew_31 : decode cX4_renew 31 = .ok (.getfield 53, 3) := dk_at k_dX4_renew_0 (i := 15) rfl
theorem dX4_renew_34 : decode cX4_renew 34 = .ok (.invokevirtual 61, 3) := dk_at k_dX4_renew_0 (i := 16) rfl
theorem dX4_renew_37 : decode cX4_renew 37 = .ok (.aload_n 0, 1) := dk_at k_dX4_renew_0 (i := 17) rfl
theorem dX4_renew_38 : decode cX4_renew 38 = .ok (.getfield 31, 3) := dk_at k_dX4_renew_0 (i := 18) rfl
theorem dX4_renew_41 : decode cX4_renew 41 = .ok (.aload_n 0, 1) := dk_at k_dX4_renew_0 (i := 19) rfl
theorem dX4_renew_42 : decode cX4_renew 42 = .ok (.getfield 24, 3) := dk_at k_dX4_renew_0 (i := 20) rfl
theorem dX4_renew_45 : decode cX4_renew 45 = .ok (.invokevirtual 65, 3) := dk_at k_dX4_renew_0 (i := 21) rfl
theorem dX4_renew_48 : decode cX4_renew 48 = .ok (.iconst 0, 1) := dk_at k_dX4_renew_0 (i := 22) rfl
theorem dX4_renew_49 : decode cX4_renew 49 = .ok (.istore_n 1, 1) := dk_at k_dX4_renew_0 (i := 23) rfl
theorem dX4_renew_50 : decode cX4_renew 50 = .ok (.iload_n 1, 1) := dk_at k_dX4_renew_0 (i := 24) rfl
theorem dX4_renew_51 : decode cX4_renew 51 = .ok (.aload_n 0, 1) := dk_at k_dX4_renew_0 (i := 25) rfl
theorem dX4_renew_52 : decode cX4_renew 52 = .ok (.getfield 15, 3) := dk_at k_dX4_renew_0 (i := 26) rfl
theorem dX4_renew_55 : decode cX4_renew 55 = .ok (.getfield 69, 3) := dk_at k_dX4_renew_0 (i := 27) rfl
theorem dX4_renew_58 : decode cX4_renew 58 = .ok (.if_icmp .ge 14, 3) := dk_at k_dX4_renew_0 (i := 28) rfl
theorem dX4_renew_61 : decode cX4_renew 61 = .ok (.aload_n 0, 1) := dk_at k_dX4_renew_0 (i := 29) rfl
theorem dX4_renew_62 : decode cX4_renew 62 = .ok (.iload_n 1, 1) := dk_at k_dX4_renew_0 (i := 30) rfl
theorem dX4_renew_63 : decode cX4_renew 63 = .ok (.invokevirtual 72, 3) := dk_at k_dX4_renew_0 (i := 31) rfl
theorem k_dX4_renew_66 : dk cX4_renew [(66, .iinc 1 1, 3), (69, .goto (-19), 3), (72, .iconst 0, 1), (73, .istore_n 1, 1), (74, .iload_n 1, 1), (75, .aload_n 0, 1), (76, .getfield 15, 3), (79, .getfield 69, 3), (82, .if_icmp .ge 27, 3), (85, .aload_n 0, 1), (86, .getfield 9, 3), (89, .iload_n 1, 1), (90, .aload_n 0, 1), (91, .getfield 31, 3), (94, .getfield 75, 3), (97, .iload_n 1, 1), (98, .iaload, 1), (99, .invokestatic 78, 3), (102, .iastore, 1), (103, .iinc 1 1, 3), (106, .goto (-32), 3), (109, .return_, 1)] = true := by decide +kernel
theorem dX4_renew_66 : decode cX4_renew 66 = .ok (.iinc 1 1, 3) := dk_at k_dX4_renew_66 (i := 0) rfl
theorem dX4_renew_69 : decode cX4_renew 69 = .ok (.goto (-19), 3) := dk_at k_dX4_renew_66 (i := 1) rfl
theorem dX4_renew_72 : decode cX4_renew 72 = .ok (.iconst 0, 1) := dk_at k_dX4_renew_66 (i := 2) rfl
theorem dX4_renew_73 : decode cX4_renew 73 = .ok (.istore_n 1, 1) := dk_at k_dX4_renew_66 (i := 3) rfl
theorem dX4_renew_74 : decode cX4_renew 74 = .ok (.iload_n 1, 1) := dk_at k_dX4_renew_66 (i := 4) rfl
theorem dX4_renew_75 : decode cX4_renew 75 = .ok (.aload_n 0, 1) := dk_at k_dX4_renew_66 (i := 5) rfl
theorem dX4_renew_76 : decode cX4_renew 76 = .ok (.getfield 15, 3) := dk_at k_dX4_renew_66 (i := 6) rfl
theorem dX4_renew_79 : decode cX4_renew 79 = .ok (.getfield 69, 3) := dk_at k_dX4_renew_66 (i := 7) rfl
theorem dX4_renew_82 : decode cX4_renew 82 = .ok (.if_icmp .ge 27, 3) := dk_at k_dX4_renew_66 (i := 8) rfl
theorem dX4_renew_85 : decode cX4_renew 85 = .ok (.aload_n 0, 1) := dk_at k_dX4_renew_66 (i := 9) rfl
theorem dX4_renew_86 : decode cX4_renew 86 = .ok (.getfield 9, 3) := dk_at k_dX4_renew_66 (i := 10) rfl
theorem dX4_renew_89 : decode cX4_renew 89 = .ok (.iload_n 1, 1) := dk_at k_dX4_renew_66 (i := 11) rfl
theorem dX4_renew_90 : decode cX4_renew 90 = .ok (.aload_n 0, 1) := dk_at k_dX4_renew_66 (i := 12) rfl
theorem dX4_renew_91 : decode cX4_renew 91 = .ok (.getfield 31, 3) := dk_at k_dX4_renew_66 (i := 13) rfl
theorem dX4_renew_94 : decode cX4_renew 94 = .ok (.getfield 75, 3) := dk_at k_dX4_renew_66 (i := 14) rfl
theorem dX4_renew_97 : decode cX4_renew 97 = .ok (.iload_n 1, 1) := dk_at k_dX4_renew_66 (i := 15) rfl
theorem dX4_renew_98 : decode cX4_renew 98 = .ok (.iaload, 1) := dk_at k_dX4_renew_66 (i := 16) rfl
theorem dX4_renew_99 : decode cX4_renew 99 = .ok (.invokestatic 78, 3) := dk_at k_dX4_renew_66 (i := 17) rfl
theorem dX4_renew_102 : decode cX4_renew 102 = .ok (.iastore, 1) := dk_at k_dX4_renew_66 (i := 18) rfl
theorem dX4_renew_103 : decode cX4_renew 103 = .ok (.iinc 1 1, 3) := dk_at k_dX4_renew_66 (i := 19) rfl
theorem dX4_renew_106 : decode cX4_renew 106 = .ok (.goto (-32), 3) := dk_at k_dX4_renew_66 (i := 20) rfl
theorem dX4_renew_109 : decode cX4_renew 109 = .ok (.return_, 1) := dk_at k_dX4_renew_66 (i := 21) rfl
theorem k_dX4_takeDefault_0 : dk cX4_takeDefault [(0, .aload_n 0, 1), (1, .getfield 31, 3), (4, .getfield 75, 3), (7, .iload_n 1, 1), (8, .iaload, 1), (9, .invokestatic 82, 3), (12, .iconst 1, 1), (13, .if_icmp .gt 4, 3), (16, .return_, 1), (17, .bipush 9, 2), (19, .istore_n 2, 1), (20, .iload_n 2, 1), (21, .ifCond .lt 111, 3), (24, .aload_n 0, 1), (25, .getfield 15, 3), (28, .iload_n 1, 1), (29, .iload_n 2, 1), (30, .invokevirtual 87, 3), (33, .aload_n 0, 1), (34, .getfield 31, 3), (37, .getfield 75, 3), (40, .iload_n 1, 1), (41, .iaload, 1), (42, .iand, 1), (43, .istore_n 3, 1), (44, .iconst 0, 1), (45, .istore 4, 2), (47, .iload 4, 2), (49, .bipush 8, 2), (51, .if_icmp .ge 75, 3), (54, .iload_n 3, 1), (55, .iload 4, 2)] = true := by decide +kernel
theorem dX4_takeDefault_0 : decode cX4_takeDefault 0 = .ok (.aload_n 0, 1) := dk_at k_dX4_takeDefault_0 (i := 0) rfl
theorem dX4_takeDefault_1 : decode cX4_takeDefault 1 = .ok (.getfield 31, 3) := dk_at k_dX4_takeDefault_0 (i := 1) rfl
theorem dX4_takeDefault_4 : decode cX4_takeDefault 4 = .ok (.getfield 75, 3) := dk_at k_dX4_takeDefault_0 (i := 2) rfl
theorem dX4_takeDefault_7 : decode cX4_takeDefault 7 = .ok (.iload_n 1, 1) := dk_at k_dX4_takeDefault_0 (i := 3) rfl
theorem dX4_takeDefault_8 : decode cX4_takeDefault 8 = .ok (.iaload, 1) := dk_at k_dX4_takeDefault_0 (i := 4) rfl
theorem dX4_takeDefault_9 : decode cX4_takeDefault 9 = .ok (.invokestatic 82, 3) := dk_at k_dX4_takeDefault_0 (i := 5) rfl
theorem dX4_takeDefault_12 : decode cX4_takeDefault 12 = .ok (.iconst 1, 1) := dk_at k_dX4_takeDefault_0 (i := 6) rfl
theorem dX4_takeDefault_13 : decode cX4_takeDefault 13 = .ok (.if_icmp .gt 4, 3) := dk_at k_dX4_takeDefault_0 (i := 7) rfl
theorem dX4_takeDefault_16 : decode cX4_takeDefault 16 = .ok (.return_, 1) := dk_at k_dX4_takeDefault_0 (i := 8) rfl
theorem dX4_takeDefault_17 : decode cX4_takeDefault 17 = .ok (.bipush 9, 2) := dk_at k_dX4_takeDefault_0 (i := 9) rfl
theorem dX4_takeDefault_19 : decode cX4_takeDefault 19 = .ok (.istore_n 2, 1) := dk_at k_dX4_takeDefault_0 (i := 10) rfl
theorem dX4_takeDefault_20 : decode cX4_takeDefault 20 = .ok (.iload_n 2, 1) := dk_at k_dX4_takeDefault_0 (i := 11) rfl
theorem dX4_takeDefault_21 : decode cX4_takeDefault 21 = .ok (.ifCond .lt 111, 3) := dk_at k_dX4_takeDefault_0 (i := 12) rfl
theorem dX4_takeDefault_24 : decode cX4_takeDefault 24 = .ok (.aload_n 0, 1) := dk_at k_dX4_takeDefault_0 (i := 13) rfl
theorem dX4_takeDefault_25 : decode cX4_takeDefault 25 = .ok (.getfield 15, 3) := dk_at k_dX4_takeDefault_0 (i := 14) rfl
theorem dX4_takeDefault_28 : decode cX4_takeDefault 28 = .ok (.iload_n 1, 1) := dk_at k_dX4_takeDefault_0 (i := 15) rfl
theorem dX4_takeDefault_29 : decode cX4_takeDefault 29 = .ok (.iload_n 2, 1) := dk_at k_dX4_takeDefault_0 (i := 16) rfl
theorem dX4_takeDefault_30 : decode cX4_takeDefault 30 = .ok (.invokevirtual 87, 3) := dk_at k_dX4_takeDefault_0 (i := 17) rfl
theorem dX4_takeDefault_33 : decode cX4_takeDefault 33 = .ok (.aload_n 0, 1) := dk_at k_dX4_takeDefault_0 (i := 18) rfl
theorem dX4_takeDefault_34 : decode cX4_takeDefault 34 = .ok (.getfield 31, 3) := dk_at k_dX4_takeDefault_0 (i := 19) rfl
theorem dX4_takeDefault_37 : decode cX4_takeDefault 37 = .ok (.getfield 75, 3) := dk_at k_dX4_takeDefault_0 (i := 20) rfl
theorem dX4_takeDefault_40 : decode cX4_takeDefault 40 = .ok (.iload_n 1, 1) := dk_at k_dX4_takeDefault_0 (i := 21) rfl
theorem dX4_takeDefault_41 : decode cX4_takeDefault 41 = .ok (.iaload, 1) := dk_at k_dX4_takeDefault_0 (i := 22) rfl
theorem dX4_takeDefault_42 : decode cX4_takeDefault 42 = .ok (.iand, 1) := dk_at k_dX4_takeDefault_0 (i := 23) rfl
theorem dX4_takeDefault_43 : decode cX4_takeDefault 43 = .ok (.istore_n 3, 1) := dk_at k_dX4_takeDefault_0 (i := 24) rfl
theorem dX4_takeDefault_44 : decode cX4_takeDefault 44 = .ok (.iconst 0, 1) := dk_at k_dX4_takeDefault_0 (i := 25) rfl
theorem dX4_takeDefault_45 : decode cX4_takeDefault 45 = .ok (.istore 4, 2) := dk_at k_dX4_takeDefault_0 (i := 26) rfl
theorem dX4_takeDefault_47 : decode cX4_takeDefault 47 = .ok (.iload 4, 2) := dk_at k_dX4_takeDefault_0 (i := 27) rfl
theorem dX4_takeDefault_49 : decode cX4_takeDefault 49 = .ok (.bipush 8, 2) := dk_at k_dX4_takeDefault_0 (i := 28) rfl
theorem dX4_takeDefault_51 : decode cX4_takeDefault 51 = .ok (.if_icmp .ge 75, 3) := dk_at k_dX4_takeDefault_0 (i := 29) rfl
theorem dX4_takeDefault_54 : decode cX4_takeDefault 54 = .ok (.iload_n 3, 1) := dk_at k_dX4_takeDefault_0 (i := 30) rfl
theorem dX4_takeDefault_55 : decode cX4_takeDefault 55 = .ok (.iload 4, 2) := dk_at k_dX4_takeDefault_0 (i := 31) rfl
theorem k_dX4_takeDefault_57 : dk cX4_takeDefault [(57, .invokestatic 91, 3), (60, .ifCond .eq 60, 3), (63, .aload_n 0, 1), (64, .getfield 28, 3), (67, .aload_n 0, 1), (68, .getfield 31, 3), (71, .invokevirtual 65, 3), (74, .aload_n 0, 1), (75, .getfield 28, 3), (78, .getfield 75, 3), (81, .iload_n 1, 1), (82, .iconst 1, 1), (83, .iload 4, 2), (85, .ishl, 1), (86, .iastore, 1), (87, .aload_n 0, 1), (88, .getfield 28, 3), (91, .aload_n 0, 1), (92, .getfield 53, 3), (95, .invokevirtual 95, 3), (98, .aload_n 0, 1), (99, .getfield 28, 3), (102, .getfield 98, 3), (105, .ifCond .ne 15, 3), (108, .aload_n 0, 1), (109, .getfield 31, 3), (112, .aload_n 0, 1), (113, .getfield 28, 3), (116, .invokevirtual 65, 3), (119, .return_, 1), (120, .iinc 4 1, 3), (123, .goto (-76), 3)] = true := by decide +kernel
theorem dX4_takeDefault_57 : decode cX4_takeDefault 57 = .ok (.invokestatic 91, 3) := dk_at k_dX4_takeDefault_57 (i := 0) rfl
theorem dX4_takeDefault_60 : decode cX4_takeDefault 60 = .ok (.ifCond .eq 60, 3) := dk_at k_dX4_takeDefault_57 (i := 1) rfl
theorem dX4_takeDefault_63 : decode cX4_takeDefault 63 = .ok (.aload_n 0, 1) := dk_at k_dX4_takeDefault_57 (i := 2) rfl
theorem dX4_takeDefault_64 : decode cX4_takeDefault 64 = .ok (.getfield 28, 3) := dk_at k_dX4_takeDefault_57 (i := 3) rfl
theorem dX4_takeDefault_67 : decode cX4_takeDefault 67 = .ok (.aload_n 0, 1) := dk_at k_dX4_takeDefault_57 (i := 4) rfl
theorem dX4_takeDefault_68 : decode cX4_takeDefault 68 = .ok (.getfield 31, 3) := dk_at k_dX4_takeDefault_57 (i := 5) rfl
theorem dX4_takeDefault_71 : decode cX4_takeDefault 71 = .ok (.invokevirtual 65, 3) := dk_at k_dX4_takeDefault_57 (i := 6) rfl
theorem dX4_takeDefault_74 : decode cX4_takeDefault 74 = .ok (.aload_n 0, 1) := dk_at k_dX4_takeDefault_57 (i := 7) rfl
theorem dX4_takeDefault_75 : decode cX4_takeDefault 75 = .ok (.getfield 28, 3) := dk_at k_dX4_takeDefault_57 (i := 8) rfl
theorem dX4_takeDefault_78 : decode cX4_takeDefault 78 = .ok (.getfield 75, 3) := dk_at k_dX4_takeDefault_57 (i := 9) rfl
theorem dX4_takeDefault_81 : decode cX4_takeDefault 81 = .ok (.iload_n 1, 1) := dk_at k_dX4_takeDefault_57 (i := 10) rfl
theorem dX4_takeDefault_82 : decode cX4_takeDefault 82 = .ok (.iconst 1, 1) := dk_at k_dX4_takeDefault_57 (i := 11) rfl
theorem dX4_takeDefault_83 : decode cX4_takeDefault 83 = .ok (.iload 4, 2) := dk_at k_dX4_takeDefault_57 (i := 12) rfl
theorem dX4_takeDefault_85 : decode cX4_takeDefault 85 = .ok (.ishl, 1) := dk_at k_dX4_takeDefault_57 (i := 13) rfl
theorem dX4_takeDefault_86 : decode cX4_takeDefault 86 = .ok (.iastore, 1) := dk_at k_dX4_takeDefault_57 (i := 14) rfl
theorem dX4_takeDefault_87 : decode cX4_takeDefault 87 = .ok (.aload_n 0, 1) := dk_at k_dX4_takeDefault_57 (i := 15) rfl
theorem dX4_takeDefault_88 : decode cX4_takeDefault 88 = .ok (.getfield 28, 3) := dk_at k_dX4_takeDefault_57 (i := 16) rfl
theorem dX4_takeDefault_91 : decode cX4_takeDefault 91 = .ok (.aload_n 0, 1) := dk_at k_dX4_takeDefault_57 (i := 17) rfl
theorem dX4_takeDefault_92 : decode cX4_takeDefault 92 = .ok (.getfield 53, 3) := dk_at k_dX4_takeDefault_57 (i := 18) rfl
theorem dX4_takeDefault_95 : decode cX4_takeDefault 95 = .ok (.invokevirtual 95, 3) := dk_at k_dX4_takeDefault_57 (i := 19) rfl
theorem dX4_takeDefault_98 : decode cX4_takeDefault 98 = .ok (.aload_n 0, 1) := dk_at k_dX4_takeDefault_57 (i := 20) rfl
theorem dX4_takeDefault_99 : decode cX4_takeDefault 99 = .ok (.getfield 28, 3) := dk_at k_dX4_takeDefault_57 (i := 21) rfl
theorem dX4_takeDefault_102 : decode cX4_takeDefault 102 = .ok (.getfield 98, 3) := dk_at k_dX4_takeDefault_57 (i := 22) rfl
theorem dX4_takeDefault_105 : decode cX4_takeDefault 105 = .ok (.ifCond .ne 15, 3) := dk_at k_dX4_takeDefault_57 (i := 23) rfl
theorem dX4_takeDefault_108 : decode cX4_takeDefault 108 = .ok (.aload_n 0, 1) := dk_at k_dX4_takeDefault_57 (i := 24) rfl
theorem dX4_takeDefault_109 : decode cX4_takeDefault 109 = .ok (.getfield 31, 3) := dk_at k_dX4_takeDefault_57 (i := 25) rfl
theorem dX4_takeDefault_112 : decode cX4_takeDefault 112 = .ok (.aload_n 0, 1) := dk_at k_dX4_takeDefault_57 (i := 26) rfl
theorem dX4_takeDefault_113 : decode cX4_takeDefault 113 = .ok (.getfield 28, 3) := dk_at k_dX4_takeDefault_57 (i := 27) rfl
theorem dX4_takeDefault_116 : decode cX4_takeDefault 116 = .ok (.invokevirtual 65, 3) := dk_at k_dX4_takeDefault_57 (i := 28) rfl
theorem dX4_takeDefault_119 : decode cX4_takeDefault 119 = .ok (.return_, 1) := dk_at k_dX4_takeDefault_57 (i := 29) rfl
theorem dX4_takeDefault_120 : decode cX4_takeDefault 120 = .ok (.iinc 4 1, 3) := dk_at k_dX4_takeDefault_57 (i := 30) rfl
theorem dX4_takeDefault_123 : decode cX4_takeDefault 123 = .ok (.goto (-76), 3) := dk_at k_dX4_takeDefault_57 (i := 31) rfl
theorem k_dX4_takeDefault_126 : dk cX4_takeDefault [(126, .iinc 2 (-1), 3), (129, .goto (-109), 3), (132, .return_, 1)] = true := by decide +kernel
theorem dX4_takeDefault_126 : decode cX4_takeDefault 126 = .ok (.iinc 2 (-1), 3) := dk_at k_dX4_takeDefault_126 (i := 0) rfl
theorem dX4_takeDefault_129 : decode cX4_takeDefault 129 = .ok (.goto (-109), 3) := dk_at k_dX4_takeDefault_126 (i := 1) rfl
theorem dX4_takeDefault_132 : decode cX4_takeDefault 132 = .ok (.return_, 1) := dk_at k_dX4_takeDefault_126 (i := 2) rfl
theorem k_dX4_onlyNumber_0 : dk cX4_onlyNumber [(0, .iconst 0, 1), (1, .istore_n 1, 1), (2, .iload_n 1, 1), (3, .bipush 8, 2), (5, .if_icmp .ge 18, 3), (8, .iload_n 0, 1), (9, .iconst 1, 1), (10, .iload_n 1, 1), (11, .ishl, 1), (12, .if_icmp .ne 5, 3), (15, .iload_n 1, 1), (16, .ireturn, 1), (17, .iinc 1 1, 3), (20, .goto (-18), 3), (23, .iconst (-1), 1), (24, .ireturn, 1)] = true := by decide +kernel
theorem dX4_onlyNumber_0 : decode cX4_onlyNumber 0 = .ok (.iconst 0, 1) := dk_at k_dX4_onlyNumber_0 (i := 0) rfl
theorem dX4_onlyNumber_1 : decode cX4_onlyNumber 1 = .ok (.istore_n 1, 1) := dk_at k_dX4_onlyNumber_0 (i := 1) rfl
theorem dX4_onlyNumber_2 : decode cX4_onlyNumber 2 = .ok (.iload_n 1, 1) := dk_at k_dX4_onlyNumber_0 (i := 2) rfl
theorem dX4_onlyNumber_3 : decode cX4_onlyNumber 3 = .ok (.bipush 8, 2) := dk_at k_dX4_onlyNumber_0 (i := 3) rfl
theorem dX4_onlyNumber_5 : decode cX4_onlyNumber 5 = .ok (.if_icmp .ge 18, 3) := dk_at k_dX4_onlyNumber_0 (i := 4) rfl
theorem dX4_onlyNumber_8 : decode cX4_onlyNumber 8 = .ok (.iload_n 0, 1) := dk_at k_dX4_onlyNumber_0 (i := 5) rfl
theorem dX4_onlyNumber_9 : decode cX4_onlyNumber 9 = .ok (.iconst 1, 1) := dk_at k_dX4_onlyNumber_0 (i := 6) rfl
theorem dX4_onlyNumber_10 : decode cX4_onlyNumber 10 = .ok (.iload_n 1, 1) := dk_at k_dX4_onlyNumber_0 (i := 7) rfl
theorem dX4_onlyNumber_11 : decode cX4_onlyNumber 11 = .ok (.ishl, 1) := dk_at k_dX4_onlyNumber_0 (i := 8) rfl
theorem dX4_onlyNumber_12 : decode cX4_onlyNumber 12 = .ok (.if_icmp .ne 5, 3) := dk_at k_dX4_onlyNumber_0 (i := 9) rfl
theorem dX4_onlyNumber_15 : decode cX4_onlyNumber 15 = .ok (.iload_n 1, 1) := dk_at k_dX4_onlyNumber_0 (i := 10) rfl
theorem dX4_onlyNumber_16 : decode cX4_onlyNumber 16 = .ok (.ireturn, 1) := dk_at k_dX4_onlyNumber_0 (i := 11) rfl
theorem dX4_onlyNumber_17 : decode cX4_onlyNumber 17 = .ok (.iinc 1 1, 3) := dk_at k_dX4_onlyNumber_0 (i := 12) rfl
theorem dX4_onlyNumber_20 : decode cX4_onlyNumber 20 = .ok (.goto (-18), 3) := dk_at k_dX4_onlyNumber_0 (i := 13) rfl
theorem dX4_onlyNumber_23 : decode cX4_onlyNumber 23 = .ok (.iconst (-1), 1) := dk_at k_dX4_onlyNumber_0 (i := 14) rfl
theorem dX4_onlyNumber_24 : decode cX4_onlyNumber 24 = .ok (.ireturn, 1) := dk_at k_dX4_onlyNumber_0 (i := 15) rfl
theorem k_dX4_settledFields_0 : dk cX4_settledFields [(0, .iconst 0, 1), (1, .istore_n 1, 1), (2, .iconst 0, 1), (3, .istore_n 2, 1), (4, .iload_n 2, 1), (5, .aload_n 0, 1), (6, .getfield 15, 3), (9, .getfield 69, 3), (12, .if_icmp .ge 22, 3), (15, .aload_n 0, 1), (16, .getfield 9, 3), (19, .iload_n 2, 1), (20, .iaload, 1), (21, .iconst (-1), 1), (22, .if_icmp .eq 6, 3), (25, .iinc 1 1, 3), (28, .iinc 2 1, 3), (31, .goto (-27), 3), (34, .iload_n 1, 1), (35, .ireturn, 1)] = true := by decide +kernel
theorem dX4_settledFields_0 : decode cX4_settledFields 0 = .ok (.iconst 0, 1) := dk_at k_dX4_settledFields_0 (i := 0) rfl
theorem dX4_settledFields_1 : decode cX4_settledFields 1 = .ok (.istore_n 1, 1) := dk_at k_dX4_settledFields_0 (i := 1) rfl
theorem dX4_settledFields_2 : decode cX4_settledFields 2 = .ok (.iconst 0, 1) := dk_at k_dX4_settledFields_0 (i := 2) rfl
theorem dX4_settledFields_3 : decode cX4_settledFields 3 = .ok (.istore_n 2, 1) := dk_at k_dX4_settledFields_0 (i := 3) rfl
theorem dX4_settledFields_4 : decode cX4_settledFields 4 = .ok (.iload_n 2, 1) := dk_at k_dX4_settledFields_0 (i := 4) rfl
theorem dX4_settledFields_5 : decode cX4_settledFields 5 = .ok (.aload_n 0, 1) := dk_at k_dX4_settledFields_0 (i := 5) rfl
theorem dX4_settledFields_6 : decode cX4_settledFields 6 = .ok (.getfield 15, 3) := dk_at k_dX4_settledFields_0 (i := 6) rfl
theorem dX4_settledFields_9 : decode cX4_settledFields 9 = .ok (.getfield 69, 3) := dk_at k_dX4_settledFields_0 (i := 7) rfl
theorem dX4_settledFields_12 : decode cX4_settledFields 12 = .ok (.if_icmp .ge 22, 3) := dk_at k_dX4_settledFields_0 (i := 8) rfl
theorem dX4_settledFields_15 : decode cX4_settledFields 15 = .ok (.aload_n 0, 1) := dk_at k_dX4_settledFields_0 (i := 9) rfl
theorem dX4_settledFields_16 : decode cX4_settledFields 16 = .ok (.getfield 9, 3) := dk_at k_dX4_settledFields_0 (i := 10) rfl
theorem dX4_settledFields_19 : decode cX4_settledFields 19 = .ok (.iload_n 2, 1) := dk_at k_dX4_settledFields_0 (i := 11) rfl
theorem dX4_settledFields_20 : decode cX4_settledFields 20 = .ok (.iaload, 1) := dk_at k_dX4_settledFields_0 (i := 12) rfl
theorem dX4_settledFields_21 : decode cX4_settledFields 21 = .ok (.iconst (-1), 1) := dk_at k_dX4_settledFields_0 (i := 13) rfl
theorem dX4_settledFields_22 : decode cX4_settledFields 22 = .ok (.if_icmp .eq 6, 3) := dk_at k_dX4_settledFields_0 (i := 14) rfl
theorem dX4_settledFields_25 : decode cX4_settledFields 25 = .ok (.iinc 1 1, 3) := dk_at k_dX4_settledFields_0 (i := 15) rfl
theorem dX4_settledFields_28 : decode cX4_settledFields 28 = .ok (.iinc 2 1, 3) := dk_at k_dX4_settledFields_0 (i := 16) rfl
theorem dX4_settledFields_31 : decode cX4_settledFields 31 = .ok (.goto (-27), 3) := dk_at k_dX4_settledFields_0 (i := 17) rfl
theorem dX4_settledFields_34 : decode cX4_settledFields 34 = .ok (.iload_n 1, 1) := dk_at k_dX4_settledFields_0 (i := 18) rfl
theorem dX4_settledFields_35 : decode cX4_settledFields 35 = .ok (.ireturn, 1) := dk_at k_dX4_settledFields_0 (i := 19) rfl
theorem k_dX4_reasonOf_0 : dk cX4_reasonOf [(0, .iload_n 1, 1), (1, .ifCond .lt 28, 3), (4, .iload_n 1, 1), (5, .aload_n 0, 1), (6, .getfield 15, 3), (9, .getfield 69, 3), (12, .if_icmp .ge 17, 3), (15, .aload_n 0, 1), (16, .getfield 24, 3), (19, .getfield 98, 3), (22, .ifCond .ne 7, 3), (25, .iconst 1, 1), (26, .goto 4, 3), (29, .iconst 0, 1), (30, .istore_n 2, 1), (31, .iload_n 2, 1), (32, .ifCond .ne 15, 3), (35, .aload_n 0, 1), (36, .getfield 24, 3), (39, .getfield 98, 3), (42, .ifCond .ne 5, 3), (45, .iconst 0, 1), (46, .ireturn, 1), (47, .aload_n 0, 1), (48, .getfield 53, 3), (51, .istore_n 3, 1), (52, .iconst 0, 1), (53, .istore 4, 2), (55, .iload 4, 2), (57, .aload_n 0, 1), (58, .getfield 15, 3), (61, .getfield 102, 3)] = true := by decide +kernel
theorem dX4_reasonOf_0 : decode cX4_reasonOf 0 = .ok (.iload_n 1, 1) := dk_at k_dX4_reasonOf_0 (i := 0) rfl
theorem dX4_reasonOf_1 : decode cX4_reasonOf 1 = .ok (.ifCond .lt 28, 3) := dk_at k_dX4_reasonOf_0 (i := 1) rfl
theorem dX4_reasonOf_4 : decode cX4_reasonOf 4 = .ok (.iload_n 1, 1) := dk_at k_dX4_reasonOf_0 (i := 2) rfl
theorem dX4_reasonOf_5 : decode cX4_reasonOf 5 = .ok (.aload_n 0, 1) := dk_at k_dX4_reasonOf_0 (i := 3) rfl
theorem dX4_reasonOf_6 : decode cX4_reasonOf 6 = .ok (.getfield 15, 3) := dk_at k_dX4_reasonOf_0 (i := 4) rfl
theorem dX4_reasonOf_9 : decode cX4_reasonOf 9 = .ok (.getfield 69, 3) := dk_at k_dX4_reasonOf_0 (i := 5) rfl
theorem dX4_reasonOf_12 : decode cX4_reasonOf 12 = .ok (.if_icmp .ge 17, 3) := dk_at k_dX4_reasonOf_0 (i := 6) rfl
theorem dX4_reasonOf_15 : decode cX4_reasonOf 15 = .ok (.aload_n 0, 1) := dk_at k_dX4_reasonOf_0 (i := 7) rfl
theorem dX4_reasonOf_16 : decode cX4_reasonOf 16 = .ok (.getfield 24, 3) := dk_at k_dX4_reasonOf_0 (i := 8) rfl
theorem dX4_reasonOf_19 : decode cX4_reasonOf 19 = .ok (.getfield 98, 3) := dk_at k_dX4_reasonOf_0 (i := 9) rfl
theorem dX4_reasonOf_22 : decode cX4_reasonOf 22 = .ok (.ifCond .ne 7, 3) := dk_at k_dX4_reasonOf_0 (i := 10) rfl
theorem dX4_reasonOf_25 : decode cX4_reasonOf 25 = .ok (.iconst 1, 1) := dk_at k_dX4_reasonOf_0 (i := 11) rfl
theorem dX4_reasonOf_26 : decode cX4_reasonOf 26 = .ok (.goto 4, 3) := dk_at k_dX4_reasonOf_0 (i := 12) rfl
theorem dX4_reasonOf_29 : decode cX4_reasonOf 29 = .ok (.iconst 0, 1) := dk_at k_dX4_reasonOf_0 (i := 13) rfl
theorem dX4_reasonOf_30 : decode cX4_reasonOf 30 = .ok (.istore_n 2, 1) := dk_at k_dX4_reasonOf_0 (i := 14) rfl
theorem dX4_reasonOf_31 : decode cX4_reasonOf 31 = .ok (.iload_n 2, 1) := dk_at k_dX4_reasonOf_0 (i := 15) rfl
theorem dX4_reasonOf_32 : decode cX4_reasonOf 32 = .ok (.ifCond .ne 15, 3) := dk_at k_dX4_reasonOf_0 (i := 16) rfl
theorem dX4_reasonOf_35 : decode cX4_reasonOf 35 = .ok (.aload_n 0, 1) := dk_at k_dX4_reasonOf_0 (i := 17) rfl
theorem dX4_reasonOf_36 : decode cX4_reasonOf 36 = .ok (.getfield 24, 3) := dk_at k_dX4_reasonOf_0 (i := 18) rfl
theorem dX4_reasonOf_39 : decode cX4_reasonOf 39 = .ok (.getfield 98, 3) := dk_at k_dX4_reasonOf_0 (i := 19) rfl
theorem dX4_reasonOf_42 : decode cX4_reasonOf 42 = .ok (.ifCond .ne 5, 3) := dk_at k_dX4_reasonOf_0 (i := 20) rfl
theorem dX4_reasonOf_45 : decode cX4_reasonOf 45 = .ok (.iconst 0, 1) := dk_at k_dX4_reasonOf_0 (i := 21) rfl
theorem dX4_reasonOf_46 : decode cX4_reasonOf 46 = .ok (.ireturn, 1) := dk_at k_dX4_reasonOf_0 (i := 22) rfl
theorem dX4_reasonOf_47 : decode cX4_reasonOf 47 = .ok (.aload_n 0, 1) := dk_at k_dX4_reasonOf_0 (i := 23) rfl
theorem dX4_reasonOf_48 : decode cX4_reasonOf 48 = .ok (.getfield 53, 3) := dk_at k_dX4_reasonOf_0 (i := 24) rfl
theorem dX4_reasonOf_51 : decode cX4_reasonOf 51 = .ok (.istore_n 3, 1) := dk_at k_dX4_reasonOf_0 (i := 25) rfl
theorem dX4_reasonOf_52 : decode cX4_reasonOf 52 = .ok (.iconst 0, 1) := dk_at k_dX4_reasonOf_0 (i := 26) rfl
theorem dX4_reasonOf_53 : decode cX4_reasonOf 53 = .ok (.istore 4, 2) := dk_at k_dX4_reasonOf_0 (i := 27) rfl
theorem dX4_reasonOf_55 : decode cX4_reasonOf 55 = .ok (.iload 4, 2) := dk_at k_dX4_reasonOf_0 (i := 28) rfl
theorem dX4_reasonOf_57 : decode cX4_reasonOf 57 = .ok (.aload_n 0, 1) := dk_at k_dX4_reasonOf_0 (i := 29) rfl
theorem dX4_reasonOf_58 : decode cX4_reasonOf 58 = .ok (.getfield 15, 3) := dk_at k_dX4_reasonOf_0 (i := 30) rfl
theorem dX4_reasonOf_61 : decode cX4_reasonOf 61 = .ok (.getfield 102, 3) := dk_at k_dX4_reasonOf_0 (i := 31) rfl
theorem k_dX4_reasonOf_64 : dk cX4_reasonOf [(64, .if_icmp .ge 75, 3), (67, .iload_n 3, 1), (68, .iconst 1, 1), (69, .iload 4, 2), (71, .ishl, 1), (72, .iconst (-1), 1), (73, .ixor, 1), (74, .iand, 1), (75, .istore 5, 2), (77, .iload 5, 2), (79, .iload_n 3, 1), (80, .if_icmp .eq 53, 3), (83, .aload_n 0, 1), (84, .getfield 28, 3), (87, .iload 5, 2), (89, .invokevirtual 57, 3), (92, .iload_n 2, 1), (93, .ifCond .eq 27, 3), (96, .aload_n 0, 1), (97, .getfield 28, 3), (100, .getfield 75, 3), (103, .iload_n 1, 1), (104, .iaload, 1), (105, .aload_n 0, 1), (106, .getfield 24, 3), (109, .getfield 75, 3), (112, .iload_n 1, 1), (113, .iaload, 1), (114, .if_icmp .ne 19, 3), (117, .goto 13, 3), (120, .aload_n 0, 1), (121, .getfield 28, 3)] = true := by decide +kernel
theorem dX4_reasonOf_64 : decode cX4_reasonOf 64 = .ok (.if_icmp .ge 75, 3) := dk_at k_dX4_reasonOf_64 (i := 0) rfl
theorem dX4_reasonOf_67 : decode cX4_reasonOf 67 = .ok (.iload_n 3, 1) := dk_at k_dX4_reasonOf_64 (i := 1) rfl
theorem dX4_reasonOf_68 : decode cX4_reasonOf 68 = .ok (.iconst 1, 1) := dk_at k_dX4_reasonOf_64 (i := 2) rfl
theorem dX4_reasonOf_69 : decode cX4_reasonOf 69 = .ok (.iload 4, 2) := dk_at k_dX4_reasonOf_64 (i := 3) rfl
theorem dX4_reasonOf_71 : decode cX4_reasonOf 71 = .ok (.ishl, 1) := dk_at k_dX4_reasonOf_64 (i := 4) rfl
theorem dX4_reasonOf_72 : decode cX4_reasonOf 72 = .ok (.iconst (-1), 1) := dk_at k_dX4_reasonOf_64 (i := 5) rfl
theorem dX4_reasonOf_73 : decode cX4_reasonOf 73 = .ok (.ixor, 1) := dk_at k_dX4_reasonOf_64 (i := 6) rfl
theorem dX4_reasonOf_74 : decode cX4_reasonOf 74 = .ok (.iand, 1) := dk_at k_dX4_reasonOf_64 (i := 7) rfl
theorem dX4_reasonOf_75 : decode cX4_reasonOf 75 = .ok (.istore 5, 2) := dk_at k_dX4_reasonOf_64 (i := 8) rfl
theorem dX4_reasonOf_77 : decode cX4_reasonOf 77 = .ok (.iload 5, 2) := dk_at k_dX4_reasonOf_64 (i := 9) rfl
theorem dX4_reasonOf_79 : decode cX4_reasonOf 79 = .ok (.iload_n 3, 1) := dk_at k_dX4_reasonOf_64 (i := 10) rfl
theorem dX4_reasonOf_80 : decode cX4_reasonOf 80 = .ok (.if_icmp .eq 53, 3) := dk_at k_dX4_reasonOf_64 (i := 11) rfl
theorem dX4_reasonOf_83 : decode cX4_reasonOf 83 = .ok (.aload_n 0, 1) := dk_at k_dX4_reasonOf_64 (i := 12) rfl
theorem dX4_reasonOf_84 : decode cX4_reasonOf 84 = .ok (.getfield 28, 3) := dk_at k_dX4_reasonOf_64 (i := 13) rfl
theorem dX4_reasonOf_87 : decode cX4_reasonOf 87 = .ok (.iload 5, 2) := dk_at k_dX4_reasonOf_64 (i := 14) rfl
theorem dX4_reasonOf_89 : decode cX4_reasonOf 89 = .ok (.invokevirtual 57, 3) := dk_at k_dX4_reasonOf_64 (i := 15) rfl
theorem dX4_reasonOf_92 : decode cX4_reasonOf 92 = .ok (.iload_n 2, 1) := dk_at k_dX4_reasonOf_64 (i := 16) rfl
theorem dX4_reasonOf_93 : decode cX4_reasonOf 93 = .ok (.ifCond .eq 27, 3) := dk_at k_dX4_reasonOf_64 (i := 17) rfl
theorem dX4_reasonOf_96 : decode cX4_reasonOf 96 = .ok (.aload_n 0, 1) := dk_at k_dX4_reasonOf_64 (i := 18) rfl
theorem dX4_reasonOf_97 : decode cX4_reasonOf 97 = .ok (.getfield 28, 3) := dk_at k_dX4_reasonOf_64 (i := 19) rfl
theorem dX4_reasonOf_100 : decode cX4_reasonOf 100 = .ok (.getfield 75, 3) := dk_at k_dX4_reasonOf_64 (i := 20) rfl
theorem dX4_reasonOf_103 : decode cX4_reasonOf 103 = .ok (.iload_n 1, 1) := dk_at k_dX4_reasonOf_64 (i := 21) rfl
theorem dX4_reasonOf_104 : decode cX4_reasonOf 104 = .ok (.iaload, 1) := dk_at k_dX4_reasonOf_64 (i := 22) rfl
theorem dX4_reasonOf_105 : decode cX4_reasonOf 105 = .ok (.aload_n 0, 1) := dk_at k_dX4_reasonOf_64 (i := 23) rfl
theorem dX4_reasonOf_106 : decode cX4_reasonOf 106 = .ok (.getfield 24, 3) := dk_at k_dX4_reasonOf_64 (i := 24) rfl
theorem dX4_reasonOf_109 : decode cX4_reasonOf 109 = .ok (.getfield 75, 3) := dk_at k_dX4_reasonOf_64 (i := 25) rfl
theorem dX4_reasonOf_112 : decode cX4_reasonOf 112 = .ok (.iload_n 1, 1) := dk_at k_dX4_reasonOf_64 (i := 26) rfl
theorem dX4_reasonOf_113 : decode cX4_reasonOf 113 = .ok (.iaload, 1) := dk_at k_dX4_reasonOf_64 (i := 27) rfl
theorem dX4_reasonOf_114 : decode cX4_reasonOf 114 = .ok (.if_icmp .ne 19, 3) := dk_at k_dX4_reasonOf_64 (i := 28) rfl
theorem dX4_reasonOf_117 : decode cX4_reasonOf 117 = .ok (.goto 13, 3) := dk_at k_dX4_reasonOf_64 (i := 29) rfl
theorem dX4_reasonOf_120 : decode cX4_reasonOf 120 = .ok (.aload_n 0, 1) := dk_at k_dX4_reasonOf_64 (i := 30) rfl
theorem dX4_reasonOf_121 : decode cX4_reasonOf 121 = .ok (.getfield 28, 3) := dk_at k_dX4_reasonOf_64 (i := 31) rfl
theorem k_dX4_reasonOf_124 : dk cX4_reasonOf [(124, .getfield 98, 3), (127, .ifCond .eq 6, 3), (130, .iload 5, 2), (132, .istore_n 3, 1), (133, .iinc 4 1, 3), (136, .goto (-81), 3), (139, .iload_n 3, 1), (140, .ireturn, 1)] = true := by decide +kernel
theorem dX4_reasonOf_124 : decode cX4_reasonOf 124 = .ok (.getfield 98, 3) := dk_at k_dX4_reasonOf_124 (i := 0) rfl
theorem dX4_reasonOf_127 : decode cX4_reasonOf 127 = .ok (.ifCond .eq 6, 3) := dk_at k_dX4_reasonOf_124 (i := 1) rfl
theorem dX4_reasonOf_130 : decode cX4_reasonOf 130 = .ok (.iload 5, 2) := dk_at k_dX4_reasonOf_124 (i := 2) rfl
theorem dX4_reasonOf_132 : decode cX4_reasonOf 132 = .ok (.istore_n 3, 1) := dk_at k_dX4_reasonOf_124 (i := 3) rfl
theorem dX4_reasonOf_133 : decode cX4_reasonOf 133 = .ok (.iinc 4 1, 3) := dk_at k_dX4_reasonOf_124 (i := 4) rfl
theorem dX4_reasonOf_136 : decode cX4_reasonOf 136 = .ok (.goto (-81), 3) := dk_at k_dX4_reasonOf_124 (i := 5) rfl
theorem dX4_reasonOf_139 : decode cX4_reasonOf 139 = .ok (.iload_n 3, 1) := dk_at k_dX4_reasonOf_124 (i := 6) rfl
theorem dX4_reasonOf_140 : decode cX4_reasonOf 140 = .ok (.ireturn, 1) := dk_at k_dX4_reasonOf_124 (i := 7) rfl
theorem k_dX5_init_0 : dk cX5_init [(0, .aload_n 0, 1), (1, .invokespecial 1, 3), (4, .aload_n 0, 1), (5, .new 7, 3), (8, .dup, 1), (9, .invokespecial 9, 3), (12, .putfield 10, 3), (15, .aload_n 0, 1), (16, .new 16, 3), (19, .dup, 1), (20, .aload_n 0, 1), (21, .getfield 10, 3), (24, .invokespecial 18, 3), (27, .putfield 21, 3), (30, .aload_n 0, 1), (31, .new 25, 3), (34, .dup, 1), (35, .invokespecial 27, 3), (38, .putfield 28, 3), (41, .aload_n 0, 1), (42, .iconst 0, 1), (43, .putfield 32, 3), (46, .return_, 1)] = true := by decide +kernel
theorem dX5_init_0 : decode cX5_init 0 = .ok (.aload_n 0, 1) := dk_at k_dX5_init_0 (i := 0) rfl
theorem dX5_init_1 : decode cX5_init 1 = .ok (.invokespecial 1, 3) := dk_at k_dX5_init_0 (i := 1) rfl
theorem dX5_init_4 : decode cX5_init 4 = .ok (.aload_n 0, 1) := dk_at k_dX5_init_0 (i := 2) rfl
theorem dX5_init_5 : decode cX5_init 5 = .ok (.new 7, 3) := dk_at k_dX5_init_0 (i := 3) rfl
theorem dX5_init_8 : decode cX5_init 8 = .ok (.dup, 1) := dk_at k_dX5_init_0 (i := 4) rfl
theorem dX5_init_9 : decode cX5_init 9 = .ok (.invokespecial 9, 3) := dk_at k_dX5_init_0 (i := 5) rfl
theorem dX5_init_12 : decode cX5_init 12 = .ok (.putfield 10, 3) := dk_at k_dX5_init_0 (i := 6) rfl
theorem dX5_init_15 : decode cX5_init 15 = .ok (.aload_n 0, 1) := dk_at k_dX5_init_0 (i := 7) rfl
theorem dX5_init_16 : decode cX5_init 16 = .ok (.new 16, 3) := dk_at k_dX5_init_0 (i := 8) rfl
theorem dX5_init_19 : decode cX5_init 19 = .ok (.dup, 1) := dk_at k_dX5_init_0 (i := 9) rfl
theorem dX5_init_20 : decode cX5_init 20 = .ok (.aload_n 0, 1) := dk_at k_dX5_init_0 (i := 10) rfl
theorem dX5_init_21 : decode cX5_init 21 = .ok (.getfield 10, 3) := dk_at k_dX5_init_0 (i := 11) rfl
theorem dX5_init_24 : decode cX5_init 24 = .ok (.invokespecial 18, 3) := dk_at k_dX5_init_0 (i := 12) rfl
theorem dX5_init_27 : decode cX5_init 27 = .ok (.putfield 21, 3) := dk_at k_dX5_init_0 (i := 13) rfl
theorem dX5_init_30 : decode cX5_init 30 = .ok (.aload_n 0, 1) := dk_at k_dX5_init_0 (i := 14) rfl
theorem dX5_init_31 : decode cX5_init 31 = .ok (.new 25, 3) := dk_at k_dX5_init_0 (i := 15) rfl
theorem dX5_init_34 : decode cX5_init 34 = .ok (.dup, 1) := dk_at k_dX5_init_0 (i := 16) rfl
theorem dX5_init_35 : decode cX5_init 35 = .ok (.invokespecial 27, 3) := dk_at k_dX5_init_0 (i := 17) rfl
theorem dX5_init_38 : decode cX5_init 38 = .ok (.putfield 28, 3) := dk_at k_dX5_init_0 (i := 18) rfl
theorem dX5_init_41 : decode cX5_init 41 = .ok (.aload_n 0, 1) := dk_at k_dX5_init_0 (i := 19) rfl
theorem dX5_init_42 : decode cX5_init 42 = .ok (.iconst 0, 1) := dk_at k_dX5_init_0 (i := 20) rfl
theorem dX5_init_43 : decode cX5_init 43 = .ok (.putfield 32, 3) := dk_at k_dX5_init_0 (i := 21) rfl
theorem dX5_init_46 : decode cX5_init 46 = .ok (.return_, 1) := dk_at k_dX5_init_0 (i := 22) rfl
theorem k_dX5_field_0 : dk cX5_field [(0, .iload_n 1, 1), (1, .invokestatic 36, 3), (4, .ifCond .ne 13, 3), (7, .new 40, 3), (10, .dup, 1), (11, .ldc 42, 2), (13, .invokespecial 44, 3), (16, .athrow, 1), (17, .aload_n 0, 1), (18, .getfield 10, 3), (21, .getfield 47, 3), (24, .iconst 5, 1), (25, .if_icmp .lt 13, 3), (28, .new 50, 3), (31, .dup, 1), (32, .ldc 52, 2), (34, .invokespecial 54, 3)] = true := by decide +kernel
theorem dX5_field_0 : decode cX5_field 0 = .ok (.iload_n 1, 1) := dk_at k_dX5_field_0 (i := 0) rfl
theorem dX5_field_1 : decode cX5_field 1 = .ok (.invokestatic 36, 3) := dk_at k_dX5_field_0 (i := 1) rfl
theorem dX5_field_4 : decode cX5_field 4 = .ok (.ifCond .ne 13, 3) := dk_at k_dX5_field_0 (i := 2) rfl
theorem dX5_field_7 : decode cX5_field 7 = .ok (.new 40, 3) := dk_at k_dX5_field_0 (i := 3) rfl
theorem dX5_field_10 : decode cX5_field 10 = .ok (.dup, 1) := dk_at k_dX5_field_0 (i := 4) rfl
theorem dX5_field_11 : decode cX5_field 11 = .ok (.ldc 42, 2) := dk_at k_dX5_field_0 (i := 5) rfl
theorem dX5_field_13 : decode cX5_field 13 = .ok (.invokespecial 44, 3) := dk_at k_dX5_field_0 (i := 6) rfl
theorem dX5_field_16 : decode cX5_field 16 = .ok (.athrow, 1) := dk_at k_dX5_field_0 (i := 7) rfl
theorem dX5_field_17 : decode cX5_field 17 = .ok (.aload_n 0, 1) := dk_at k_dX5_field_0 (i := 8) rfl
theorem dX5_field_18 : decode cX5_field 18 = .ok (.getfield 10, 3) := dk_at k_dX5_field_0 (i := 9) rfl
theorem dX5_field_21 : decode cX5_field 21 = .ok (.getfield 47, 3) := dk_at k_dX5_field_0 (i := 10) rfl
theorem dX5_field_24 : decode cX5_field 24 = .ok (.iconst 5, 1) := dk_at k_dX5_field_0 (i := 11) rfl
theorem dX5_field_25 : decode cX5_field 25 = .ok (.if_icmp .lt 13, 3) := dk_at k_dX5_field_0 (i := 12) rfl
theorem dX5_field_28 : decode cX5_field 28 = .ok (.new 50, 3) := dk_at k_dX5_field_0 (i := 13) rfl
theorem dX5_field_31 : decode cX5_field 31 = .ok (.dup, 1) := dk_at k_dX5_field_0 (i := 14) rfl
theorem dX5_field_32 : decode cX5_field 32 = .ok (.ldc 52, 2) := dk_at k_dX5_field_0 (i := 15) rfl
theorem dX5_field_34 : decode cX5_field 34 = .ok (.invokespecial 54, 3) := dk_at k_dX5_field_0 (i := 16) rfl
