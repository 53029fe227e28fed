def yL_below : MethodName := ⟨RL, "below", "(II)I"⟩
def yL_cell : MethodName := ⟨RL, "cell", "([II)I"⟩
def yL_house : MethodName := ⟨RL, "house", "([I)LMeetjoin;"⟩
def yL_tell : MethodName := ⟨RL, "tell", "(LMeetjoin;I)Z"⟩
def yL_isDone : MethodName := ⟨RL, "isDone", "(LMeetjoin;I)Z"⟩
abbrev cL_law : ByteArray := code
def yL_law : MethodName := ⟨RL, "law", "([I)Z"⟩
def yL_isSo : MethodName := ⟨RL, "isSo", "(LMeetjoin;)Z"⟩
def yL_isReason : MethodName := ⟨RL, "isReason", "(LMeetjoin;)Z"⟩
theorem k_dL_below_0 : dk cL_below [(0, .iload_n 0, 1), (1, .ldc 7, 2), (3, .iand, 1), (4, .iload_n 1, 1), (5, .irem, 1), (6, .ireturn, 1)] = true := by decide +kernel
theorem dL_below_0 : decode cL_below 0 = .ok (.iload_n 0, 1) := dk_at k_dL_below_0 (i := 0) rfl
theorem dL_below_1 : decode cL_below 1 = .ok (.ldc 7, 2) := dk_at k_dL_below_0 (i := 1) rfl
theorem dL_below_3 : decode cL_below 3 = .ok (.iand, 1) := dk_at k_dL_below_0 (i := 2) rfl
theorem dL_below_4 : decode cL_below 4 = .ok (.iload_n 1, 1) := dk_at k_dL_below_0 (i := 3) rfl
theorem dL_below_5 : decode cL_below 5 = .ok (.irem, 1) := dk_at k_dL_below_0 (i := 4) rfl
theorem dL_below_6 : decode cL_below 6 = .ok (.ireturn, 1) := dk_at k_dL_below_0 (i := 5) rfl
theorem k_dL_cell_0 : dk cL_cell [(0, .iload_n 1, 1), (1, .aload_n 0, 1), (2, .arraylength, 1), (3, .if_icmp .ge 9, 3), (6, .aload_n 0, 1), (7, .iload_n 1, 1), (8, .iaload, 1), (9, .goto 9, 3), (12, .ldc 8, 2), (14, .iload_n 1, 1), (15, .iconst 3, 1), (16, .iadd, 1), (17, .imul, 1), (18, .ireturn, 1)] = true := by decide +kernel
theorem dL_cell_0 : decode cL_cell 0 = .ok (.iload_n 1, 1) := dk_at k_dL_cell_0 (i := 0) rfl
theorem dL_cell_1 : decode cL_cell 1 = .ok (.aload_n 0, 1) := dk_at k_dL_cell_0 (i := 1) rfl
theorem dL_cell_2 : decode cL_cell 2 = .ok (.arraylength, 1) := dk_at k_dL_cell_0 (i := 2) rfl
theorem dL_cell_3 : decode cL_cell 3 = .ok (.if_icmp .ge 9, 3) := dk_at k_dL_cell_0 (i := 3) rfl
theorem dL_cell_6 : decode cL_cell 6 = .ok (.aload_n 0, 1) := dk_at k_dL_cell_0 (i := 4) rfl
theorem dL_cell_7 : decode cL_cell 7 = .ok (.iload_n 1, 1) := dk_at k_dL_cell_0 (i := 5) rfl
theorem dL_cell_8 : decode cL_cell 8 = .ok (.iaload, 1) := dk_at k_dL_cell_0 (i := 6) rfl
theorem dL_cell_9 : decode cL_cell 9 = .ok (.goto 9, 3) := dk_at k_dL_cell_0 (i := 7) rfl
theorem dL_cell_12 : decode cL_cell 12 = .ok (.ldc 8, 2) := dk_at k_dL_cell_0 (i := 8) rfl
theorem dL_cell_14 : decode cL_cell 14 = .ok (.iload_n 1, 1) := dk_at k_dL_cell_0 (i := 9) rfl
theorem dL_cell_15 : decode cL_cell 15 = .ok (.iconst 3, 1) := dk_at k_dL_cell_0 (i := 10) rfl
theorem dL_cell_16 : decode cL_cell 16 = .ok (.iadd, 1) := dk_at k_dL_cell_0 (i := 11) rfl
theorem dL_cell_17 : decode cL_cell 17 = .ok (.imul, 1) := dk_at k_dL_cell_0 (i := 12) rfl
theorem dL_cell_18 : decode cL_cell 18 = .ok (.ireturn, 1) := dk_at k_dL_cell_0 (i := 13) rfl
theorem k_dL_house_0 : dk cL_house [(0, .new 9, 3), (3, .dup, 1), (4, .invokespecial 11, 3), (7, .astore_n 1, 1), (8, .iconst 2, 1), (9, .aload_n 0, 1), (10, .iconst 0, 1), (11, .invokestatic 12, 3), (14, .iconst 4, 1), (15, .invokestatic 18, 3), (18, .iadd, 1), (19, .istore_n 2, 1), (20, .iconst 0, 1), (21, .istore_n 3, 1), (22, .iload_n 3, 1), (23, .iload_n 2, 1), (24, .if_icmp .ge 29, 3), (27, .aload_n 1, 1), (28, .aload_n 0, 1), (29, .iconst 0, 1), (30, .invokestatic 12, 3), (33, .iconst 2, 1), (34, .iload_n 3, 1), (35, .imul, 1), (36, .iconst 2, 1), (37, .iadd, 1), (38, .ishr, 1), (39, .iconst 4, 1), (40, .invokestatic 18, 3), (43, .invokevirtual 22, 3), (46, .pop, 1), (47, .iinc 3 1, 3)] = true := by decide +kernel
theorem dL_house_0 : decode cL_house 0 = .ok (.new 9, 3) := dk_at k_dL_house_0 (i := 0) rfl
theorem dL_house_3 : decode cL_house 3 = .ok (.dup, 1) := dk_at k_dL_house_0 (i := 1) rfl
theorem dL_house_4 : decode cL_house 4 = .ok (.invokespecial 11, 3) := dk_at k_dL_house_0 (i := 2) rfl
theorem dL_house_7 : decode cL_house 7 = .ok (.astore_n 1, 1) := dk_at k_dL_house_0 (i := 3) rfl
theorem dL_house_8 : decode cL_house 8 = .ok (.iconst 2, 1) := dk_at k_dL_house_0 (i := 4) rfl
theorem dL_house_9 : decode cL_house 9 = .ok (.aload_n 0, 1) := dk_at k_dL_house_0 (i := 5) rfl
theorem dL_house_10 : decode cL_house 10 = .ok (.iconst 0, 1) := dk_at k_dL_house_0 (i := 6) rfl
theorem dL_house_11 : decode cL_house 11 = .ok (.invokestatic 12, 3) := dk_at k_dL_house_0 (i := 7) rfl
theorem dL_house_14 : decode cL_house 14 = .ok (.iconst 4, 1) := dk_at k_dL_house_0 (i := 8) rfl
theorem dL_house_15 : decode cL_house 15 = .ok (.invokestatic 18, 3) := dk_at k_dL_house_0 (i := 9) rfl
theorem dL_house_18 : decode cL_house 18 = .ok (.iadd, 1) := dk_at k_dL_house_0 (i := 10) rfl
theorem dL_house_19 : decode cL_house 19 = .ok (.istore_n 2, 1) := dk_at k_dL_house_0 (i := 11) rfl
theorem dL_house_20 : decode cL_house 20 = .ok (.iconst 0, 1) := dk_at k_dL_house_0 (i := 12) rfl
theorem dL_house_21 : decode cL_house 21 = .ok (.istore_n 3, 1) := dk_at k_dL_house_0 (i := 13) rfl
theorem dL_house_22 : decode cL_house 22 = .ok (.iload_n 3, 1) := dk_at k_dL_house_0 (i := 14) rfl
theorem dL_house_23 : decode cL_house 23 = .ok (.iload_n 2, 1) := dk_at k_dL_house_0 (i := 15) rfl
theorem dL_house_24 : decode cL_house 24 = .ok (.if_icmp .ge 29, 3) := dk_at k_dL_house_0 (i := 16) rfl
theorem dL_house_27 : decode cL_house 27 = .ok (.aload_n 1, 1) := dk_at k_dL_house_0 (i := 17) rfl
theorem dL_house_28 : decode cL_house 28 = .ok (.aload_n 0, 1) := dk_at k_dL_house_0 (i := 18) rfl
theorem dL_house_29 : decode cL_house 29 = .ok (.iconst 0, 1) := dk_at k_dL_house_0 (i := 19) rfl
theorem dL_house_30 : decode cL_house 30 = .ok (.invokestatic 12, 3) := dk_at k_dL_house_0 (i := 20) rfl
theorem dL_house_33 : decode cL_house 33 = .ok (.iconst 2, 1) := dk_at k_dL_house_0 (i := 21) rfl
theorem dL_house_34 : decode cL_house 34 = .ok (.iload_n 3, 1) := dk_at k_dL_house_0 (i := 22) rfl
theorem dL_house_35 : decode cL_house 35 = .ok (.imul, 1) := dk_at k_dL_house_0 (i := 23) rfl
theorem dL_house_36 : decode cL_house 36 = .ok (.iconst 2, 1) := dk_at k_dL_house_0 (i := 24) rfl
theorem dL_house_37 : decode cL_house 37 = .ok (.iadd, 1) := dk_at k_dL_house_0 (i := 25) rfl
theorem dL_house_38 : decode cL_house 38 = .ok (.ishr, 1) := dk_at k_dL_house_0 (i := 26) rfl
theorem dL_house_39 : decode cL_house 39 = .ok (.iconst 4, 1) := dk_at k_dL_house_0 (i := 27) rfl
theorem dL_house_40 : decode cL_house 40 = .ok (.invokestatic 18, 3) := dk_at k_dL_house_0 (i := 28) rfl
theorem dL_house_43 : decode cL_house 43 = .ok (.invokevirtual 22, 3) := dk_at k_dL_house_0 (i := 29) rfl
theorem dL_house_46 : decode cL_house 46 = .ok (.pop, 1) := dk_at k_dL_house_0 (i := 30) rfl
theorem dL_house_47 : decode cL_house 47 = .ok (.iinc 3 1, 3) := dk_at k_dL_house_0 (i := 31) rfl
theorem k_dL_house_50 : dk cL_house [(50, .goto (-28), 3), (53, .iconst 4, 1), (54, .aload_n 0, 1), (55, .iconst 1, 1), (56, .invokestatic 12, 3), (59, .bipush 9, 2), (61, .invokestatic 18, 3), (64, .iadd, 1), (65, .istore_n 3, 1), (66, .iconst 0, 1), (67, .istore 4, 2), (69, .iload 4, 2), (71, .iload_n 3, 1), (72, .if_icmp .ge 22, 3), (75, .aload_n 1, 1), (76, .aload_n 0, 1), (77, .iconst 2, 1), (78, .iload 4, 2), (80, .iadd, 1), (81, .invokestatic 12, 3), (84, .invokestatic 26, 3), (87, .pop, 1), (88, .iinc 4 1, 3), (91, .goto (-22), 3), (94, .aload_n 1, 1), (95, .areturn, 1)] = true := by decide +kernel
theorem dL_house_50 : decode cL_house 50 = .ok (.goto (-28), 3) := dk_at k_dL_house_50 (i := 0) rfl
theorem dL_house_53 : decode cL_house 53 = .ok (.iconst 4, 1) := dk_at k_dL_house_50 (i := 1) rfl
theorem dL_house_54 : decode cL_house 54 = .ok (.aload_n 0, 1) := dk_at k_dL_house_50 (i := 2) rfl
theorem dL_house_55 : decode cL_house 55 = .ok (.iconst 1, 1) := dk_at k_dL_house_50 (i := 3) rfl
theorem dL_house_56 : decode cL_house 56 = .ok (.invokestatic 12, 3) := dk_at k_dL_house_50 (i := 4) rfl
theorem dL_house_59 : decode cL_house 59 = .ok (.bipush 9, 2) := dk_at k_dL_house_50 (i := 5) rfl
theorem dL_house_61 : decode cL_house 61 = .ok (.invokestatic 18, 3) := dk_at k_dL_house_50 (i := 6) rfl
theorem dL_house_64 : decode cL_house 64 = .ok (.iadd, 1) := dk_at k_dL_house_50 (i := 7) rfl
theorem dL_house_65 : decode cL_house 65 = .ok (.istore_n 3, 1) := dk_at k_dL_house_50 (i := 8) rfl
theorem dL_house_66 : decode cL_house 66 = .ok (.iconst 0, 1) := dk_at k_dL_house_50 (i := 9) rfl
theorem dL_house_67 : decode cL_house 67 = .ok (.istore 4, 2) := dk_at k_dL_house_50 (i := 10) rfl
theorem dL_house_69 : decode cL_house 69 = .ok (.iload 4, 2) := dk_at k_dL_house_50 (i := 11) rfl
theorem dL_house_71 : decode cL_house 71 = .ok (.iload_n 3, 1) := dk_at k_dL_house_50 (i := 12) rfl
theorem dL_house_72 : decode cL_house 72 = .ok (.if_icmp .ge 22, 3) := dk_at k_dL_house_50 (i := 13) rfl
theorem dL_house_75 : decode cL_house 75 = .ok (.aload_n 1, 1) := dk_at k_dL_house_50 (i := 14) rfl
theorem dL_house_76 : decode cL_house 76 = .ok (.aload_n 0, 1) := dk_at k_dL_house_50 (i := 15) rfl
theorem dL_house_77 : decode cL_house 77 = .ok (.iconst 2, 1) := dk_at k_dL_house_50 (i := 16) rfl
theorem dL_house_78 : decode cL_house 78 = .ok (.iload 4, 2) := dk_at k_dL_house_50 (i := 17) rfl
theorem dL_house_80 : decode cL_house 80 = .ok (.iadd, 1) := dk_at k_dL_house_50 (i := 18) rfl
theorem dL_house_81 : decode cL_house 81 = .ok (.invokestatic 12, 3) := dk_at k_dL_house_50 (i := 19) rfl
theorem dL_house_84 : decode cL_house 84 = .ok (.invokestatic 26, 3) := dk_at k_dL_house_50 (i := 20) rfl
theorem dL_house_87 : decode cL_house 87 = .ok (.pop, 1) := dk_at k_dL_house_50 (i := 21) rfl
theorem dL_house_88 : decode cL_house 88 = .ok (.iinc 4 1, 3) := dk_at k_dL_house_50 (i := 22) rfl
theorem dL_house_91 : decode cL_house 91 = .ok (.goto (-22), 3) := dk_at k_dL_house_50 (i := 23) rfl
theorem dL_house_94 : decode cL_house 94 = .ok (.aload_n 1, 1) := dk_at k_dL_house_50 (i := 24) rfl
theorem dL_house_95 : decode cL_house 95 = .ok (.areturn, 1) := dk_at k_dL_house_50 (i := 25) rfl
theorem k_dL_tell_0 : dk cL_tell [(0, .iload_n 1, 1), (1, .aload_n 0, 1), (2, .iconst 0, 1), (3, .invokevirtual 30, 3), (6, .invokestatic 18, 3), (9, .istore_n 2, 1), (10, .iload_n 2, 1), (11, .iconst 1, 1), (12, .iadd, 1), (13, .iload_n 1, 1), (14, .iconst 3, 1), (15, .ishr, 1), (16, .aload_n 0, 1), (17, .iconst 0, 1), (18, .invokevirtual 30, 3), (21, .iconst 1, 1), (22, .isub, 1), (23, .invokestatic 18, 3), (26, .iadd, 1), (27, .aload_n 0, 1), (28, .iconst 0, 1), (29, .invokevirtual 30, 3), (32, .irem, 1), (33, .istore_n 3, 1), (34, .iload_n 1, 1), (35, .iconst 5, 1), (36, .ishr, 1), (37, .iconst 5, 1), (38, .invokestatic 18, 3), (41, .ifCond .ne 14, 3), (44, .iload_n 1, 1), (45, .bipush 7, 2)] = true := by decide +kernel
theorem dL_tell_0 : decode cL_tell 0 = .ok (.iload_n 1, 1) := dk_at k_dL_tell_0 (i := 0) rfl
theorem dL_tell_1 : decode cL_tell 1 = .ok (.aload_n 0, 1) := dk_at k_dL_tell_0 (i := 1) rfl
theorem dL_tell_2 : decode cL_tell 2 = .ok (.iconst 0, 1) := dk_at k_dL_tell_0 (i := 2) rfl
theorem dL_tell_3 : decode cL_tell 3 = .ok (.invokevirtual 30, 3) := dk_at k_dL_tell_0 (i := 3) rfl
theorem dL_tell_6 : decode cL_tell 6 = .ok (.invokestatic 18, 3) := dk_at k_dL_tell_0 (i := 4) rfl
theorem dL_tell_9 : decode cL_tell 9 = .ok (.istore_n 2, 1) := dk_at k_dL_tell_0 (i := 5) rfl
theorem dL_tell_10 : decode cL_tell 10 = .ok (.iload_n 2, 1) := dk_at k_dL_tell_0 (i := 6) rfl
theorem dL_tell_11 : decode cL_tell 11 = .ok (.iconst 1, 1) := dk_at k_dL_tell_0 (i := 7) rfl
theorem dL_tell_12 : decode cL_tell 12 = .ok (.iadd, 1) := dk_at k_dL_tell_0 (i := 8) rfl
theorem dL_tell_13 : decode cL_tell 13 = .ok (.iload_n 1, 1) := dk_at k_dL_tell_0 (i := 9) rfl
theorem dL_tell_14 : decode cL_tell 14 = .ok (.iconst 3, 1) := dk_at k_dL_tell_0 (i := 10) rfl
theorem dL_tell_15 : decode cL_tell 15 = .ok (.ishr, 1) := dk_at k_dL_tell_0 (i := 11) rfl
theorem dL_tell_16 : decode cL_tell 16 = .ok (.aload_n 0, 1) := dk_at k_dL_tell_0 (i := 12) rfl
theorem dL_tell_17 : decode cL_tell 17 = .ok (.iconst 0, 1) := dk_at k_dL_tell_0 (i := 13) rfl
theorem dL_tell_18 : decode cL_tell 18 = .ok (.invokevirtual 30, 3) := dk_at k_dL_tell_0 (i := 14) rfl
theorem dL_tell_21 : decode cL_tell 21 = .ok (.iconst 1, 1) := dk_at k_dL_tell_0 (i := 15) rfl
theorem dL_tell_22 : decode cL_tell 22 = .ok (.isub, 1) := dk_at k_dL_tell_0 (i := 16) rfl
theorem dL_tell_23 : decode cL_tell 23 = .ok (.invokestatic 18, 3) := dk_at k_dL_tell_0 (i := 17) rfl
theorem dL_tell_26 : decode cL_tell 26 = .ok (.iadd, 1) := dk_at k_dL_tell_0 (i := 18) rfl
theorem dL_tell_27 : decode cL_tell 27 = .ok (.aload_n 0, 1) := dk_at k_dL_tell_0 (i := 19) rfl
theorem dL_tell_28 : decode cL_tell 28 = .ok (.iconst 0, 1) := dk_at k_dL_tell_0 (i := 20) rfl
theorem dL_tell_29 : decode cL_tell 29 = .ok (.invokevirtual 30, 3) := dk_at k_dL_tell_0 (i := 21) rfl
theorem dL_tell_32 : decode cL_tell 32 = .ok (.irem, 1) := dk_at k_dL_tell_0 (i := 22) rfl
theorem dL_tell_33 : decode cL_tell 33 = .ok (.istore_n 3, 1) := dk_at k_dL_tell_0 (i := 23) rfl
theorem dL_tell_34 : decode cL_tell 34 = .ok (.iload_n 1, 1) := dk_at k_dL_tell_0 (i := 24) rfl
theorem dL_tell_35 : decode cL_tell 35 = .ok (.iconst 5, 1) := dk_at k_dL_tell_0 (i := 25) rfl
theorem dL_tell_36 : decode cL_tell 36 = .ok (.ishr, 1) := dk_at k_dL_tell_0 (i := 26) rfl
theorem dL_tell_37 : decode cL_tell 37 = .ok (.iconst 5, 1) := dk_at k_dL_tell_0 (i := 27) rfl
theorem dL_tell_38 : decode cL_tell 38 = .ok (.invokestatic 18, 3) := dk_at k_dL_tell_0 (i := 28) rfl
theorem dL_tell_41 : decode cL_tell 41 = .ok (.ifCond .ne 14, 3) := dk_at k_dL_tell_0 (i := 29) rfl
theorem dL_tell_44 : decode cL_tell 44 = .ok (.iload_n 1, 1) := dk_at k_dL_tell_0 (i := 30) rfl
theorem dL_tell_45 : decode cL_tell 45 = .ok (.bipush 7, 2) := dk_at k_dL_tell_0 (i := 31) rfl
theorem k_dL_tell_47 : dk cL_tell [(47, .ishr, 1), (48, .iconst 4, 1), (49, .invokestatic 18, 3), (52, .goto 9, 3), (55, .aload_n 0, 1), (56, .iload_n 2, 1), (57, .iconst 0, 1), (58, .invokevirtual 33, 3), (61, .istore 4, 2), (63, .iload_n 1, 1), (64, .bipush 9, 2), (66, .ishr, 1), (67, .bipush 8, 2), (69, .invokestatic 18, 3), (72, .istore 5, 2), (74, .iload_n 1, 1), (75, .iconst 2, 1), (76, .ishr, 1), (77, .bipush 10, 2), (79, .invokestatic 18, 3), (82, .tableswitch 193 0 7 #[46, 69, 85, 104, 104, 152, 152, 164], 46), (128, .aload_n 0, 1), (129, .iload 4, 2), (131, .iload_n 2, 1), (132, .iconst 1, 1), (133, .iload_n 1, 1), (134, .bipush 6, 2), (136, .ishr, 1), (137, .sipush 255, 3), (140, .invokestatic 18, 3), (143, .iadd, 1), (144, .invokevirtual 36, 3)] = true := by decide +kernel
theorem dL_tell_47 : decode cL_tell 47 = .ok (.ishr, 1) := dk_at k_dL_tell_47 (i := 0) rfl
theorem dL_tell_48 : decode cL_tell 48 = .ok (.iconst 4, 1) := dk_at k_dL_tell_47 (i := 1) rfl
theorem dL_tell_49 : decode cL_tell 49 = .ok (.invokestatic 18, 3) := dk_at k_dL_tell_47 (i := 2) rfl
theorem dL_tell_52 : decode cL_tell 52 = .ok (.goto 9, 3) := dk_at k_dL_tell_47 (i := 3) rfl
theorem dL_tell_55 : decode cL_tell 55 = .ok (.aload_n 0, 1) := dk_at k_dL_tell_47 (i := 4) rfl
theorem dL_tell_56 : decode cL_tell 56 = .ok (.iload_n 2, 1) := dk_at k_dL_tell_47 (i := 5) rfl
theorem dL_tell_57 : decode cL_tell 57 = .ok (.iconst 0, 1) := dk_at k_dL_tell_47 (i := 6) rfl
theorem dL_tell_58 : decode cL_tell 58 = .ok (.invokevirtual 33, 3) := dk_at k_dL_tell_47 (i := 7) rfl
theorem dL_tell_61 : decode cL_tell 61 = .ok (.istore 4, 2) := dk_at k_dL_tell_47 (i := 8) rfl
theorem dL_tell_63 : decode cL_tell 63 = .ok (.iload_n 1, 1) := dk_at k_dL_tell_47 (i := 9) rfl
theorem dL_tell_64 : decode cL_tell 64 = .ok (.bipush 9, 2) := dk_at k_dL_tell_47 (i := 10) rfl
theorem dL_tell_66 : decode cL_tell 66 = .ok (.ishr, 1) := dk_at k_dL_tell_47 (i := 11) rfl
theorem dL_tell_67 : decode cL_tell 67 = .ok (.bipush 8, 2) := dk_at k_dL_tell_47 (i := 12) rfl
theorem dL_tell_69 : decode cL_tell 69 = .ok (.invokestatic 18, 3) := dk_at k_dL_tell_47 (i := 13) rfl
theorem dL_tell_72 : decode cL_tell 72 = .ok (.istore 5, 2) := dk_at k_dL_tell_47 (i := 14) rfl
theorem dL_tell_74 : decode cL_tell 74 = .ok (.iload_n 1, 1) := dk_at k_dL_tell_47 (i := 15) rfl
theorem dL_tell_75 : decode cL_tell 75 = .ok (.iconst 2, 1) := dk_at k_dL_tell_47 (i := 16) rfl
theorem dL_tell_76 : decode cL_tell 76 = .ok (.ishr, 1) := dk_at k_dL_tell_47 (i := 17) rfl
theorem dL_tell_77 : decode cL_tell 77 = .ok (.bipush 10, 2) := dk_at k_dL_tell_47 (i := 18) rfl
theorem dL_tell_79 : decode cL_tell 79 = .ok (.invokestatic 18, 3) := dk_at k_dL_tell_47 (i := 19) rfl
theorem dL_tell_82 : decode cL_tell 82 = .ok (.tableswitch 193 0 7 #[46, 69, 85, 104, 104, 152, 152, 164], 46) := dk_at k_dL_tell_47 (i := 20) rfl
theorem dL_tell_128 : decode cL_tell 128 = .ok (.aload_n 0, 1) := dk_at k_dL_tell_47 (i := 21) rfl
theorem dL_tell_129 : decode cL_tell 129 = .ok (.iload 4, 2) := dk_at k_dL_tell_47 (i := 22) rfl
theorem dL_tell_131 : decode cL_tell 131 = .ok (.iload_n 2, 1) := dk_at k_dL_tell_47 (i := 23) rfl
theorem dL_tell_132 : decode cL_tell 132 = .ok (.iconst 1, 1) := dk_at k_dL_tell_47 (i := 24) rfl
theorem dL_tell_133 : decode cL_tell 133 = .ok (.iload_n 1, 1) := dk_at k_dL_tell_47 (i := 25) rfl
theorem dL_tell_134 : decode cL_tell 134 = .ok (.bipush 6, 2) := dk_at k_dL_tell_47 (i := 26) rfl
theorem dL_tell_136 : decode cL_tell 136 = .ok (.ishr, 1) := dk_at k_dL_tell_47 (i := 27) rfl
theorem dL_tell_137 : decode cL_tell 137 = .ok (.sipush 255, 3) := dk_at k_dL_tell_47 (i := 28) rfl
theorem dL_tell_140 : decode cL_tell 140 = .ok (.invokestatic 18, 3) := dk_at k_dL_tell_47 (i := 29) rfl
theorem dL_tell_143 : decode cL_tell 143 = .ok (.iadd, 1) := dk_at k_dL_tell_47 (i := 30) rfl
theorem dL_tell_144 : decode cL_tell 144 = .ok (.invokevirtual 36, 3) := dk_at k_dL_tell_47 (i := 31) rfl
theorem k_dL_tell_147 : dk cL_tell [(147, .pop, 1), (148, .goto 145, 3), (151, .aload_n 0, 1), (152, .iload 4, 2), (154, .iload_n 2, 1), (155, .iload 5, 2), (157, .iconst 2, 1), (158, .idiv, 1), (159, .iconst 0, 1), (160, .invokevirtual 40, 3), (163, .pop, 1), (164, .goto 129, 3), (167, .aload_n 0, 1), (168, .iload 4, 2), (170, .iload_n 2, 1), (171, .bipush 7, 2), (173, .iload 5, 2), (175, .iconst 2, 1), (176, .idiv, 1), (177, .isub, 1), (178, .iconst 1, 1), (179, .invokevirtual 40, 3), (182, .pop, 1), (183, .goto 110, 3), (186, .aload_n 0, 1), (187, .iload 4, 2), (189, .iload_n 2, 1), (190, .iload_n 3, 1), (191, .iload_n 1, 1), (192, .bipush 6, 2), (194, .ishr, 1), (195, .iconst 2, 1)] = true := by decide +kernel
theorem dL_tell_147 : decode cL_tell 147 = .ok (.pop, 1) := dk_at k_dL_tell_147 (i := 0) rfl
theorem dL_tell_148 : decode cL_tell 148 = .ok (.goto 145, 3) := dk_at k_dL_tell_147 (i := 1) rfl
theorem dL_tell_151 : decode cL_tell 151 = .ok (.aload_n 0, 1) := dk_at k_dL_tell_147 (i := 2) rfl
theorem dL_tell_152 : decode cL_tell 152 = .ok (.iload 4, 2) := dk_at k_dL_tell_147 (i := 3) rfl
theorem dL_tell_154 : decode cL_tell 154 = .ok (.iload_n 2, 1) := dk_at k_dL_tell_147 (i := 4) rfl
theorem dL_tell_155 : decode cL_tell 155 = .ok (.iload 5, 2) := dk_at k_dL_tell_147 (i := 5) rfl
theorem dL_tell_157 : decode cL_tell 157 = .ok (.iconst 2, 1) := dk_at k_dL_tell_147 (i := 6) rfl
theorem dL_tell_158 : decode cL_tell 158 = .ok (.idiv, 1) := dk_at k_dL_tell_147 (i := 7) rfl
theorem dL_tell_159 : decode cL_tell 159 = .ok (.iconst 0, 1) := dk_at k_dL_tell_147 (i := 8) rfl
theorem dL_tell_160 : decode cL_tell 160 = .ok (.invokevirtual 40, 3) := dk_at k_dL_tell_147 (i := 9) rfl
theorem dL_tell_163 : decode cL_tell 163 = .ok (.pop, 1) := dk_at k_dL_tell_147 (i := 10) rfl
theorem dL_tell_164 : decode cL_tell 164 = .ok (.goto 129, 3) := dk_at k_dL_tell_147 (i := 11) rfl
theorem dL_tell_167 : decode cL_tell 167 = .ok (.aload_n 0, 1) := dk_at k_dL_tell_147 (i := 12) rfl
theorem dL_tell_168 : decode cL_tell 168 = .ok (.iload 4, 2) := dk_at k_dL_tell_147 (i := 13) rfl
theorem dL_tell_170 : decode cL_tell 170 = .ok (.iload_n 2, 1) := dk_at k_dL_tell_147 (i := 14) rfl
theorem dL_tell_171 : decode cL_tell 171 = .ok (.bipush 7, 2) := dk_at k_dL_tell_147 (i := 15) rfl
theorem dL_tell_173 : decode cL_tell 173 = .ok (.iload 5, 2) := dk_at k_dL_tell_147 (i := 16) rfl
theorem dL_tell_175 : decode cL_tell 175 = .ok (.iconst 2, 1) := dk_at k_dL_tell_147 (i := 17) rfl
theorem dL_tell_176 : decode cL_tell 176 = .ok (.idiv, 1) := dk_at k_dL_tell_147 (i := 18) rfl
theorem dL_tell_177 : decode cL_tell 177 = .ok (.isub, 1) := dk_at k_dL_tell_147 (i := 19) rfl
theorem dL_tell_178 : decode cL_tell 178 = .ok (.iconst 1, 1) := dk_at k_dL_tell_147 (i := 20) rfl
theorem dL_tell_179 : decode cL_tell 179 = .ok (.invokevirtual 40, 3) := dk_at k_dL_tell_147 (i := 21) rfl
theorem dL_tell_182 : decode cL_tell 182 = .ok (.pop, 1) := dk_at k_dL_tell_147 (i := 22) rfl
theorem dL_tell_183 : decode cL_tell 183 = .ok (.goto 110, 3) := dk_at k_dL_tell_147 (i := 23) rfl
theorem dL_tell_186 : decode cL_tell 186 = .ok (.aload_n 0, 1) := dk_at k_dL_tell_147 (i := 24) rfl
theorem dL_tell_187 : decode cL_tell 187 = .ok (.iload 4, 2) := dk_at k_dL_tell_147 (i := 25) rfl
theorem dL_tell_189 : decode cL_tell 189 = .ok (.iload_n 2, 1) := dk_at k_dL_tell_147 (i := 26) rfl
theorem dL_tell_190 : decode cL_tell 190 = .ok (.iload_n 3, 1) := dk_at k_dL_tell_147 (i := 27) rfl
theorem dL_tell_191 : decode cL_tell 191 = .ok (.iload_n 1, 1) := dk_at k_dL_tell_147 (i := 28) rfl
theorem dL_tell_192 : decode cL_tell 192 = .ok (.bipush 6, 2) := dk_at k_dL_tell_147 (i := 29) rfl
theorem dL_tell_194 : decode cL_tell 194 = .ok (.ishr, 1) := dk_at k_dL_tell_147 (i := 30) rfl
theorem dL_tell_195 : decode cL_tell 195 = .ok (.iconst 2, 1) := dk_at k_dL_tell_147 (i := 31) rfl
theorem k_dL_tell_196 : dk cL_tell [(196, .invokestatic 18, 3), (199, .ifCond .ne 16, 3), (202, .iload_n 1, 1), (203, .bipush 8, 2), (205, .ishr, 1), (206, .iconst 5, 1), (207, .invokestatic 18, 3), (210, .iconst 2, 1), (211, .isub, 1), (212, .goto 15, 3), (215, .iload_n 1, 1), (216, .bipush 8, 2), (218, .ishr, 1), (219, .bipush 15, 2), (221, .invokestatic 18, 3), (224, .bipush 7, 2), (226, .isub, 1), (227, .invokevirtual 44, 3), (230, .pop, 1), (231, .goto 62, 3), (234, .aload_n 0, 1), (235, .iload 4, 2), (237, .iload_n 2, 1), (238, .iload_n 3, 1), (239, .invokevirtual 48, 3), (242, .pop, 1), (243, .goto 50, 3), (246, .aload_n 0, 1), (247, .iload 4, 2), (249, .iload_n 2, 1), (250, .iload 5, 2), (252, .iload_n 1, 1)] = true := by decide +kernel
theorem dL_tell_196 : decode cL_tell 196 = .ok (.invokestatic 18, 3) := dk_at k_dL_tell_196 (i := 0) rfl
theorem dL_tell_199 : decode cL_tell 199 = .ok (.ifCond .ne 16, 3) := dk_at k_dL_tell_196 (i := 1) rfl
theorem dL_tell_202 : decode cL_tell 202 = .ok (.iload_n 1, 1) := dk_at k_dL_tell_196 (i := 2) rfl
theorem dL_tell_203 : decode cL_tell 203 = .ok (.bipush 8, 2) := dk_at k_dL_tell_196 (i := 3) rfl
theorem dL_tell_205 : decode cL_tell 205 = .ok (.ishr, 1) := dk_at k_dL_tell_196 (i := 4) rfl
theorem dL_tell_206 : decode cL_tell 206 = .ok (.iconst 5, 1) := dk_at k_dL_tell_196 (i := 5) rfl
theorem dL_tell_207 : decode cL_tell 207 = .ok (.invokestatic 18, 3) := dk_at k_dL_tell_196 (i := 6) rfl
theorem dL_tell_210 : decode cL_tell 210 = .ok (.iconst 2, 1) := dk_at k_dL_tell_196 (i := 7) rfl
theorem dL_tell_211 : decode cL_tell 211 = .ok (.isub, 1) := dk_at k_dL_tell_196 (i := 8) rfl
theorem dL_tell_212 : decode cL_tell 212 = .ok (.goto 15, 3) := dk_at k_dL_tell_196 (i := 9) rfl
theorem dL_tell_215 : decode cL_tell 215 = .ok (.iload_n 1, 1) := dk_at k_dL_tell_196 (i := 10) rfl
theorem dL_tell_216 : decode cL_tell 216 = .ok (.bipush 8, 2) := dk_at k_dL_tell_196 (i := 11) rfl
theorem dL_tell_218 : decode cL_tell 218 = .ok (.ishr, 1) := dk_at k_dL_tell_196 (i := 12) rfl
theorem dL_tell_219 : decode cL_tell 219 = .ok (.bipush 15, 2) := dk_at k_dL_tell_196 (i := 13) rfl
theorem dL_tell_221 : decode cL_tell 221 = .ok (.invokestatic 18, 3) := dk_at k_dL_tell_196 (i := 14) rfl
theorem dL_tell_224 : decode cL_tell 224 = .ok (.bipush 7, 2) := dk_at k_dL_tell_196 (i := 15) rfl
theorem dL_tell_226 : decode cL_tell 226 = .ok (.isub, 1) := dk_at k_dL_tell_196 (i := 16) rfl
theorem dL_tell_227 : decode cL_tell 227 = .ok (.invokevirtual 44, 3) := dk_at k_dL_tell_196 (i := 17) rfl
theorem dL_tell_230 : decode cL_tell 230 = .ok (.pop, 1) := dk_at k_dL_tell_196 (i := 18) rfl
theorem dL_tell_231 : decode cL_tell 231 = .ok (.goto 62, 3) := dk_at k_dL_tell_196 (i := 19) rfl
theorem dL_tell_234 : decode cL_tell 234 = .ok (.aload_n 0, 1) := dk_at k_dL_tell_196 (i := 20) rfl
theorem dL_tell_235 : decode cL_tell 235 = .ok (.iload 4, 2) := dk_at k_dL_tell_196 (i := 21) rfl
theorem dL_tell_237 : decode cL_tell 237 = .ok (.iload_n 2, 1) := dk_at k_dL_tell_196 (i := 22) rfl
theorem dL_tell_238 : decode cL_tell 238 = .ok (.iload_n 3, 1) := dk_at k_dL_tell_196 (i := 23) rfl
theorem dL_tell_239 : decode cL_tell 239 = .ok (.invokevirtual 48, 3) := dk_at k_dL_tell_196 (i := 24) rfl
theorem dL_tell_242 : decode cL_tell 242 = .ok (.pop, 1) := dk_at k_dL_tell_196 (i := 25) rfl
theorem dL_tell_243 : decode cL_tell 243 = .ok (.goto 50, 3) := dk_at k_dL_tell_196 (i := 26) rfl
theorem dL_tell_246 : decode cL_tell 246 = .ok (.aload_n 0, 1) := dk_at k_dL_tell_196 (i := 27) rfl
theorem dL_tell_247 : decode cL_tell 247 = .ok (.iload 4, 2) := dk_at k_dL_tell_196 (i := 28) rfl
theorem dL_tell_249 : decode cL_tell 249 = .ok (.iload_n 2, 1) := dk_at k_dL_tell_196 (i := 29) rfl
theorem dL_tell_250 : decode cL_tell 250 = .ok (.iload 5, 2) := dk_at k_dL_tell_196 (i := 30) rfl
theorem dL_tell_252 : decode cL_tell 252 = .ok (.iload_n 1, 1) := dk_at k_dL_tell_196 (i := 31) rfl
theorem k_dL_tell_253 : dk cL_tell [(253, .bipush 8, 2), (255, .ishr, 1), (256, .iconst 2, 1), (257, .invokestatic 18, 3), (260, .ifCond .ne 7, 3), (263, .iconst 1, 1), (264, .goto 4, 3), (267, .iconst 0, 1), (268, .invokevirtual 40, 3), (271, .pop, 1), (272, .goto 21, 3), (275, .aload_n 0, 1), (276, .iload 4, 2), (278, .iload_n 2, 1), (279, .iload 5, 2), (281, .iload_n 1, 1), (282, .bipush 6, 2), (284, .ishr, 1), (285, .iconst 4, 1), (286, .invokestatic 18, 3), (289, .invokevirtual 51, 3), (292, .pop, 1), (293, .iconst 1, 1), (294, .ireturn, 1), (295, .astore 6, 2), (297, .aload_n 0, 1), (298, .iconst 1, 1), (299, .invokevirtual 30, 3), (302, .bipush 30, 2), (304, .if_icmp .ne 7, 3), (307, .iconst 1, 1), (308, .goto 4, 3)] = true := by decide +kernel
theorem dL_tell_253 : decode cL_tell 253 = .ok (.bipush 8, 2) := dk_at k_dL_tell_253 (i := 0) rfl
theorem dL_tell_255 : decode cL_tell 255 = .ok (.ishr, 1) := dk_at k_dL_tell_253 (i := 1) rfl
theorem dL_tell_256 : decode cL_tell 256 = .ok (.iconst 2, 1) := dk_at k_dL_tell_253 (i := 2) rfl
theorem dL_tell_257 : decode cL_tell 257 = .ok (.invokestatic 18, 3) := dk_at k_dL_tell_253 (i := 3) rfl
theorem dL_tell_260 : decode cL_tell 260 = .ok (.ifCond .ne 7, 3) := dk_at k_dL_tell_253 (i := 4) rfl
theorem dL_tell_263 : decode cL_tell 263 = .ok (.iconst 1, 1) := dk_at k_dL_tell_253 (i := 5) rfl
theorem dL_tell_264 : decode cL_tell 264 = .ok (.goto 4, 3) := dk_at k_dL_tell_253 (i := 6) rfl
theorem dL_tell_267 : decode cL_tell 267 = .ok (.iconst 0, 1) := dk_at k_dL_tell_253 (i := 7) rfl
theorem dL_tell_268 : decode cL_tell 268 = .ok (.invokevirtual 40, 3) := dk_at k_dL_tell_253 (i := 8) rfl
theorem dL_tell_271 : decode cL_tell 271 = .ok (.pop, 1) := dk_at k_dL_tell_253 (i := 9) rfl
theorem dL_tell_272 : decode cL_tell 272 = .ok (.goto 21, 3) := dk_at k_dL_tell_253 (i := 10) rfl
theorem dL_tell_275 : decode cL_tell 275 = .ok (.aload_n 0, 1) := dk_at k_dL_tell_253 (i := 11) rfl
theorem dL_tell_276 : decode cL_tell 276 = .ok (.iload 4, 2) := dk_at k_dL_tell_253 (i := 12) rfl
theorem dL_tell_278 : decode cL_tell 278 = .ok (.iload_n 2, 1) := dk_at k_dL_tell_253 (i := 13) rfl
theorem dL_tell_279 : decode cL_tell 279 = .ok (.iload 5, 2) := dk_at k_dL_tell_253 (i := 14) rfl
theorem dL_tell_281 : decode cL_tell 281 = .ok (.iload_n 1, 1) := dk_at k_dL_tell_253 (i := 15) rfl
theorem dL_tell_282 : decode cL_tell 282 = .ok (.bipush 6, 2) := dk_at k_dL_tell_253 (i := 16) rfl
theorem dL_tell_284 : decode cL_tell 284 = .ok (.ishr, 1) := dk_at k_dL_tell_253 (i := 17) rfl
theorem dL_tell_285 : decode cL_tell 285 = .ok (.iconst 4, 1) := dk_at k_dL_tell_253 (i := 18) rfl
theorem dL_tell_286 : decode cL_tell 286 = .ok (.invokestatic 18, 3) := dk_at k_dL_tell_253 (i := 19) rfl
theorem dL_tell_289 : decode cL_tell 289 = .ok (.invokevirtual 51, 3) := dk_at k_dL_tell_253 (i := 20) rfl
theorem dL_tell_292 : decode cL_tell 292 = .ok (.pop, 1) := dk_at k_dL_tell_253 (i := 21) rfl
theorem dL_tell_293 : decode cL_tell 293 = .ok (.iconst 1, 1) := dk_at k_dL_tell_253 (i := 22) rfl
theorem dL_tell_294 : decode cL_tell 294 = .ok (.ireturn, 1) := dk_at k_dL_tell_253 (i := 23) rfl
theorem dL_tell_295 : decode cL_tell 295 = .ok (.astore 6, 2) := dk_at k_dL_tell_253 (i := 24) rfl
theorem dL_tell_297 : decode cL_tell 297 = .ok (.aload_n 0, 1) := dk_at k_dL_tell_253 (i := 25) rfl
theorem dL_tell_298 : decode cL_tell 298 = .ok (.iconst 1, 1) := dk_at k_dL_tell_253 (i := 26) rfl
theorem dL_tell_299 : decode cL_tell 299 = .ok (.invokevirtual 30, 3) := dk_at k_dL_tell_253 (i := 27) rfl
theorem dL_tell_302 : decode cL_tell 302 = .ok (.bipush 30, 2) := dk_at k_dL_tell_253 (i := 28) rfl
theorem dL_tell_304 : decode cL_tell 304 = .ok (.if_icmp .ne 7, 3) := dk_at k_dL_tell_253 (i := 29) rfl
theorem dL_tell_307 : decode cL_tell 307 = .ok (.iconst 1, 1) := dk_at k_dL_tell_253 (i := 30) rfl
theorem dL_tell_308 : decode cL_tell 308 = .ok (.goto 4, 3) := dk_at k_dL_tell_253 (i := 31) rfl
theorem k_dL_tell_311 : dk cL_tell [(311, .iconst 0, 1), (312, .ireturn, 1)] = true := by decide +kernel
theorem dL_tell_311 : decode cL_tell 311 = .ok (.iconst 0, 1) := dk_at k_dL_tell_311 (i := 0) rfl
theorem dL_tell_312 : decode cL_tell 312 = .ok (.ireturn, 1) := dk_at k_dL_tell_311 (i := 1) rfl
theorem k_dL_isDone_0 : dk cL_isDone [(0, .iload_n 1, 1), (1, .iconst 4, 1), (2, .ishr, 1), (3, .iconst 1, 1), (4, .aload_n 0, 1), (5, .iconst 1, 1), (6, .invokevirtual 30, 3), (9, .invokestatic 56, 3), (12, .invokestatic 18, 3), (15, .istore_n 2, 1), (16, .iload_n 1, 1), (17, .iconst 5, 1), (18, .ishr, 1), (19, .aload_n 0, 1), (20, .iconst 0, 1), (21, .invokevirtual 30, 3), (24, .invokestatic 18, 3), (27, .istore_n 3, 1), (28, .iload_n 1, 1), (29, .bipush 7, 2), (31, .ishr, 1), (32, .bipush 6, 2), (34, .invokestatic 18, 3), (37, .istore 4, 2), (39, .iload_n 1, 1), (40, .bipush 11, 2), (42, .invokestatic 18, 3), (45, .tableswitch 206 0 9 #[55, 80, 80, 105, 123, 123, 131, 167, 187, 198], 55), (100, .aload_n 0, 1), (101, .iload_n 2, 1), (102, .iload_n 1, 1), (103, .bipush 9, 2)] = true := by decide +kernel
theorem dL_isDone_0 : decode cL_isDone 0 = .ok (.iload_n 1, 1) := dk_at k_dL_isDone_0 (i := 0) rfl
theorem dL_isDone_1 : decode cL_isDone 1 = .ok (.iconst 4, 1) := dk_at k_dL_isDone_0 (i := 1) rfl
theorem dL_isDone_2 : decode cL_isDone 2 = .ok (.ishr, 1) := dk_at k_dL_isDone_0 (i := 2) rfl
theorem dL_isDone_3 : decode cL_isDone 3 = .ok (.iconst 1, 1) := dk_at k_dL_isDone_0 (i := 3) rfl
theorem dL_isDone_4 : decode cL_isDone 4 = .ok (.aload_n 0, 1) := dk_at k_dL_isDone_0 (i := 4) rfl
theorem dL_isDone_5 : decode cL_isDone 5 = .ok (.iconst 1, 1) := dk_at k_dL_isDone_0 (i := 5) rfl
theorem dL_isDone_6 : decode cL_isDone 6 = .ok (.invokevirtual 30, 3) := dk_at k_dL_isDone_0 (i := 6) rfl
theorem dL_isDone_9 : decode cL_isDone 9 = .ok (.invokestatic 56, 3) := dk_at k_dL_isDone_0 (i := 7) rfl
theorem dL_isDone_12 : decode cL_isDone 12 = .ok (.invokestatic 18, 3) := dk_at k_dL_isDone_0 (i := 8) rfl
theorem dL_isDone_15 : decode cL_isDone 15 = .ok (.istore_n 2, 1) := dk_at k_dL_isDone_0 (i := 9) rfl
theorem dL_isDone_16 : decode cL_isDone 16 = .ok (.iload_n 1, 1) := dk_at k_dL_isDone_0 (i := 10) rfl
theorem dL_isDone_17 : decode cL_isDone 17 = .ok (.iconst 5, 1) := dk_at k_dL_isDone_0 (i := 11) rfl
theorem dL_isDone_18 : decode cL_isDone 18 = .ok (.ishr, 1) := dk_at k_dL_isDone_0 (i := 12) rfl
theorem dL_isDone_19 : decode cL_isDone 19 = .ok (.aload_n 0, 1) := dk_at k_dL_isDone_0 (i := 13) rfl
theorem dL_isDone_20 : decode cL_isDone 20 = .ok (.iconst 0, 1) := dk_at k_dL_isDone_0 (i := 14) rfl
theorem dL_isDone_21 : decode cL_isDone 21 = .ok (.invokevirtual 30, 3) := dk_at k_dL_isDone_0 (i := 15) rfl
theorem dL_isDone_24 : decode cL_isDone 24 = .ok (.invokestatic 18, 3) := dk_at k_dL_isDone_0 (i := 16) rfl
theorem dL_isDone_27 : decode cL_isDone 27 = .ok (.istore_n 3, 1) := dk_at k_dL_isDone_0 (i := 17) rfl
theorem dL_isDone_28 : decode cL_isDone 28 = .ok (.iload_n 1, 1) := dk_at k_dL_isDone_0 (i := 18) rfl
theorem dL_isDone_29 : decode cL_isDone 29 = .ok (.bipush 7, 2) := dk_at k_dL_isDone_0 (i := 19) rfl
theorem dL_isDone_31 : decode cL_isDone 31 = .ok (.ishr, 1) := dk_at k_dL_isDone_0 (i := 20) rfl
theorem dL_isDone_32 : decode cL_isDone 32 = .ok (.bipush 6, 2) := dk_at k_dL_isDone_0 (i := 21) rfl
theorem dL_isDone_34 : decode cL_isDone 34 = .ok (.invokestatic 18, 3) := dk_at k_dL_isDone_0 (i := 22) rfl
theorem dL_isDone_37 : decode cL_isDone 37 = .ok (.istore 4, 2) := dk_at k_dL_isDone_0 (i := 23) rfl
theorem dL_isDone_39 : decode cL_isDone 39 = .ok (.iload_n 1, 1) := dk_at k_dL_isDone_0 (i := 24) rfl
theorem dL_isDone_40 : decode cL_isDone 40 = .ok (.bipush 11, 2) := dk_at k_dL_isDone_0 (i := 25) rfl
theorem dL_isDone_42 : decode cL_isDone 42 = .ok (.invokestatic 18, 3) := dk_at k_dL_isDone_0 (i := 26) rfl
theorem dL_isDone_45 : decode cL_isDone 45 = .ok (.tableswitch 206 0 9 #[55, 80, 80, 105, 123, 123, 131, 167, 187, 198], 55) := dk_at k_dL_isDone_0 (i := 27) rfl
theorem dL_isDone_100 : decode cL_isDone 100 = .ok (.aload_n 0, 1) := dk_at k_dL_isDone_0 (i := 28) rfl
theorem dL_isDone_101 : decode cL_isDone 101 = .ok (.iload_n 2, 1) := dk_at k_dL_isDone_0 (i := 29) rfl
theorem dL_isDone_102 : decode cL_isDone 102 = .ok (.iload_n 1, 1) := dk_at k_dL_isDone_0 (i := 30) rfl
theorem dL_isDone_103 : decode cL_isDone 103 = .ok (.bipush 9, 2) := dk_at k_dL_isDone_0 (i := 31) rfl
theorem k_dL_isDone_105 : dk cL_isDone [(105, .ishr, 1), (106, .iconst 2, 1), (107, .invokestatic 18, 3), (110, .ifCond .ne 7, 3), (113, .iconst 1, 1), (114, .goto 4, 3), (117, .iconst 0, 1), (118, .invokevirtual 61, 3), (121, .pop, 1), (122, .goto 136, 3), (125, .aload_n 0, 1), (126, .iload_n 2, 1), (127, .iload_n 1, 1), (128, .bipush 9, 2), (130, .ishr, 1), (131, .iconst 3, 1), (132, .invokestatic 18, 3), (135, .ifCond .le 7, 3), (138, .iconst 1, 1), (139, .goto 4, 3), (142, .iconst 0, 1), (143, .invokevirtual 65, 3), (146, .pop, 1), (147, .goto 111, 3), (150, .aload_n 0, 1), (151, .iload_n 3, 1), (152, .iload_n 1, 1), (153, .bipush 8, 2), (155, .ishr, 1), (156, .bipush 10, 2), (158, .invokestatic 18, 3), (161, .invokevirtual 68, 3)] = true := by decide +kernel
theorem dL_isDone_105 : decode cL_isDone 105 = .ok (.ishr, 1) := dk_at k_dL_isDone_105 (i := 0) rfl
theorem dL_isDone_106 : decode cL_isDone 106 = .ok (.iconst 2, 1) := dk_at k_dL_isDone_105 (i := 1) rfl
theorem dL_isDone_107 : decode cL_isDone 107 = .ok (.invokestatic 18, 3) := dk_at k_dL_isDone_105 (i := 2) rfl
theorem dL_isDone_110 : decode cL_isDone 110 = .ok (.ifCond .ne 7, 3) := dk_at k_dL_isDone_105 (i := 3) rfl
theorem dL_isDone_113 : decode cL_isDone 113 = .ok (.iconst 1, 1) := dk_at k_dL_isDone_105 (i := 4) rfl
theorem dL_isDone_114 : decode cL_isDone 114 = .ok (.goto 4, 3) := dk_at k_dL_isDone_105 (i := 5) rfl
theorem dL_isDone_117 : decode cL_isDone 117 = .ok (.iconst 0, 1) := dk_at k_dL_isDone_105 (i := 6) rfl
theorem dL_isDone_118 : decode cL_isDone 118 = .ok (.invokevirtual 61, 3) := dk_at k_dL_isDone_105 (i := 7) rfl
theorem dL_isDone_121 : decode cL_isDone 121 = .ok (.pop, 1) := dk_at k_dL_isDone_105 (i := 8) rfl
theorem dL_isDone_122 : decode cL_isDone 122 = .ok (.goto 136, 3) := dk_at k_dL_isDone_105 (i := 9) rfl
theorem dL_isDone_125 : decode cL_isDone 125 = .ok (.aload_n 0, 1) := dk_at k_dL_isDone_105 (i := 10) rfl
theorem dL_isDone_126 : decode cL_isDone 126 = .ok (.iload_n 2, 1) := dk_at k_dL_isDone_105 (i := 11) rfl
theorem dL_isDone_127 : decode cL_isDone 127 = .ok (.iload_n 1, 1) := dk_at k_dL_isDone_105 (i := 12) rfl
theorem dL_isDone_128 : decode cL_isDone 128 = .ok (.bipush 9, 2) := dk_at k_dL_isDone_105 (i := 13) rfl
theorem dL_isDone_130 : decode cL_isDone 130 = .ok (.ishr, 1) := dk_at k_dL_isDone_105 (i := 14) rfl
theorem dL_isDone_131 : decode cL_isDone 131 = .ok (.iconst 3, 1) := dk_at k_dL_isDone_105 (i := 15) rfl
theorem dL_isDone_132 : decode cL_isDone 132 = .ok (.invokestatic 18, 3) := dk_at k_dL_isDone_105 (i := 16) rfl
theorem dL_isDone_135 : decode cL_isDone 135 = .ok (.ifCond .le 7, 3) := dk_at k_dL_isDone_105 (i := 17) rfl
theorem dL_isDone_138 : decode cL_isDone 138 = .ok (.iconst 1, 1) := dk_at k_dL_isDone_105 (i := 18) rfl
theorem dL_isDone_139 : decode cL_isDone 139 = .ok (.goto 4, 3) := dk_at k_dL_isDone_105 (i := 19) rfl
theorem dL_isDone_142 : decode cL_isDone 142 = .ok (.iconst 0, 1) := dk_at k_dL_isDone_105 (i := 20) rfl
theorem dL_isDone_143 : decode cL_isDone 143 = .ok (.invokevirtual 65, 3) := dk_at k_dL_isDone_105 (i := 21) rfl
theorem dL_isDone_146 : decode cL_isDone 146 = .ok (.pop, 1) := dk_at k_dL_isDone_105 (i := 22) rfl
theorem dL_isDone_147 : decode cL_isDone 147 = .ok (.goto 111, 3) := dk_at k_dL_isDone_105 (i := 23) rfl
theorem dL_isDone_150 : decode cL_isDone 150 = .ok (.aload_n 0, 1) := dk_at k_dL_isDone_105 (i := 24) rfl
theorem dL_isDone_151 : decode cL_isDone 151 = .ok (.iload_n 3, 1) := dk_at k_dL_isDone_105 (i := 25) rfl
theorem dL_isDone_152 : decode cL_isDone 152 = .ok (.iload_n 1, 1) := dk_at k_dL_isDone_105 (i := 26) rfl
theorem dL_isDone_153 : decode cL_isDone 153 = .ok (.bipush 8, 2) := dk_at k_dL_isDone_105 (i := 27) rfl
theorem dL_isDone_155 : decode cL_isDone 155 = .ok (.ishr, 1) := dk_at k_dL_isDone_105 (i := 28) rfl
theorem dL_isDone_156 : decode cL_isDone 156 = .ok (.bipush 10, 2) := dk_at k_dL_isDone_105 (i := 29) rfl
theorem dL_isDone_158 : decode cL_isDone 158 = .ok (.invokestatic 18, 3) := dk_at k_dL_isDone_105 (i := 30) rfl
theorem dL_isDone_161 : decode cL_isDone 161 = .ok (.invokevirtual 68, 3) := dk_at k_dL_isDone_105 (i := 31) rfl
theorem k_dL_isDone_164 : dk cL_isDone [(164, .pop, 1), (165, .goto 93, 3), (168, .aload_n 0, 1), (169, .invokevirtual 71, 3), (172, .pop, 1), (173, .goto 85, 3), (176, .aload_n 0, 1), (177, .iconst 5, 1), (178, .invokevirtual 30, 3), (181, .ifCond .le 77, 3), (184, .aload_n 0, 1), (185, .iload_n 1, 1), (186, .bipush 9, 2), (188, .ishr, 1), (189, .aload_n 0, 1), (190, .iconst 5, 1), (191, .invokevirtual 30, 3), (194, .invokestatic 18, 3), (197, .iload_n 1, 1), (198, .iconst 3, 1), (199, .ishr, 1), (200, .bipush 64, 2), (202, .invokestatic 18, 3), (205, .invokevirtual 75, 3), (208, .pop, 1), (209, .goto 49, 3), (212, .aload_n 0, 1), (213, .iload 4, 2), (215, .iload_n 3, 1), (216, .iload_n 1, 1), (217, .bipush 9, 2), (219, .ishr, 1)] = true := by decide +kernel
theorem dL_isDone_164 : decode cL_isDone 164 = .ok (.pop, 1) := dk_at k_dL_isDone_164 (i := 0) rfl
theorem dL_isDone_165 : decode cL_isDone 165 = .ok (.goto 93, 3) := dk_at k_dL_isDone_164 (i := 1) rfl
theorem dL_isDone_168 : decode cL_isDone 168 = .ok (.aload_n 0, 1) := dk_at k_dL_isDone_164 (i := 2) rfl
theorem dL_isDone_169 : decode cL_isDone 169 = .ok (.invokevirtual 71, 3) := dk_at k_dL_isDone_164 (i := 3) rfl
theorem dL_isDone_172 : decode cL_isDone 172 = .ok (.pop, 1) := dk_at k_dL_isDone_164 (i := 4) rfl
theorem dL_isDone_173 : decode cL_isDone 173 = .ok (.goto 85, 3) := dk_at k_dL_isDone_164 (i := 5) rfl
theorem dL_isDone_176 : decode cL_isDone 176 = .ok (.aload_n 0, 1) := dk_at k_dL_isDone_164 (i := 6) rfl
theorem dL_isDone_177 : decode cL_isDone 177 = .ok (.iconst 5, 1) := dk_at k_dL_isDone_164 (i := 7) rfl
theorem dL_isDone_178 : decode cL_isDone 178 = .ok (.invokevirtual 30, 3) := dk_at k_dL_isDone_164 (i := 8) rfl
theorem dL_isDone_181 : decode cL_isDone 181 = .ok (.ifCond .le 77, 3) := dk_at k_dL_isDone_164 (i := 9) rfl
theorem dL_isDone_184 : decode cL_isDone 184 = .ok (.aload_n 0, 1) := dk_at k_dL_isDone_164 (i := 10) rfl
theorem dL_isDone_185 : decode cL_isDone 185 = .ok (.iload_n 1, 1) := dk_at k_dL_isDone_164 (i := 11) rfl
theorem dL_isDone_186 : decode cL_isDone 186 = .ok (.bipush 9, 2) := dk_at k_dL_isDone_164 (i := 12) rfl
theorem dL_isDone_188 : decode cL_isDone 188 = .ok (.ishr, 1) := dk_at k_dL_isDone_164 (i := 13) rfl
theorem dL_isDone_189 : decode cL_isDone 189 = .ok (.aload_n 0, 1) := dk_at k_dL_isDone_164 (i := 14) rfl
theorem dL_isDone_190 : decode cL_isDone 190 = .ok (.iconst 5, 1) := dk_at k_dL_isDone_164 (i := 15) rfl
theorem dL_isDone_191 : decode cL_isDone 191 = .ok (.invokevirtual 30, 3) := dk_at k_dL_isDone_164 (i := 16) rfl
theorem dL_isDone_194 : decode cL_isDone 194 = .ok (.invokestatic 18, 3) := dk_at k_dL_isDone_164 (i := 17) rfl
theorem dL_isDone_197 : decode cL_isDone 197 = .ok (.iload_n 1, 1) := dk_at k_dL_isDone_164 (i := 18) rfl
theorem dL_isDone_198 : decode cL_isDone 198 = .ok (.iconst 3, 1) := dk_at k_dL_isDone_164 (i := 19) rfl
theorem dL_isDone_199 : decode cL_isDone 199 = .ok (.ishr, 1) := dk_at k_dL_isDone_164 (i := 20) rfl
theorem dL_isDone_200 : decode cL_isDone 200 = .ok (.bipush 64, 2) := dk_at k_dL_isDone_164 (i := 21) rfl
theorem dL_isDone_202 : decode cL_isDone 202 = .ok (.invokestatic 18, 3) := dk_at k_dL_isDone_164 (i := 22) rfl
theorem dL_isDone_205 : decode cL_isDone 205 = .ok (.invokevirtual 75, 3) := dk_at k_dL_isDone_164 (i := 23) rfl
theorem dL_isDone_208 : decode cL_isDone 208 = .ok (.pop, 1) := dk_at k_dL_isDone_164 (i := 24) rfl
theorem dL_isDone_209 : decode cL_isDone 209 = .ok (.goto 49, 3) := dk_at k_dL_isDone_164 (i := 25) rfl
theorem dL_isDone_212 : decode cL_isDone 212 = .ok (.aload_n 0, 1) := dk_at k_dL_isDone_164 (i := 26) rfl
theorem dL_isDone_213 : decode cL_isDone 213 = .ok (.iload 4, 2) := dk_at k_dL_isDone_164 (i := 27) rfl
theorem dL_isDone_215 : decode cL_isDone 215 = .ok (.iload_n 3, 1) := dk_at k_dL_isDone_164 (i := 28) rfl
theorem dL_isDone_216 : decode cL_isDone 216 = .ok (.iload_n 1, 1) := dk_at k_dL_isDone_164 (i := 29) rfl
theorem dL_isDone_217 : decode cL_isDone 217 = .ok (.bipush 9, 2) := dk_at k_dL_isDone_164 (i := 30) rfl
theorem dL_isDone_219 : decode cL_isDone 219 = .ok (.ishr, 1) := dk_at k_dL_isDone_164 (i := 31) rfl
theorem k_dL_isDone_220 : dk cL_isDone [(220, .bipush 8, 2), (222, .invokestatic 18, 3), (225, .invokevirtual 78, 3), (228, .pop, 1), (229, .goto 29, 3), (232, .aload_n 0, 1), (233, .iload 4, 2), (235, .iload_n 3, 1), (236, .invokevirtual 81, 3), (239, .pop, 1), (240, .goto 18, 3), (243, .aload_n 0, 1), (244, .iload_n 1, 1), (245, .iconst 3, 1), (246, .ishr, 1), (247, .invokestatic 26, 3), (250, .ireturn, 1), (251, .aload_n 0, 1), (252, .iload_n 2, 1), (253, .iconst 0, 1), (254, .invokevirtual 65, 3), (257, .pop, 1), (258, .iconst 1, 1), (259, .ireturn, 1), (260, .astore 5, 2), (262, .iconst 0, 1), (263, .ireturn, 1)] = true := by decide +kernel
theorem dL_isDone_220 : decode cL_isDone 220 = .ok (.bipush 8, 2) := dk_at k_dL_isDone_220 (i := 0) rfl
theorem dL_isDone_222 : decode cL_isDone 222 = .ok (.invokestatic 18, 3) := dk_at k_dL_isDone_220 (i := 1) rfl
theorem dL_isDone_225 : decode cL_isDone 225 = .ok (.invokevirtual 78, 3) := dk_at k_dL_isDone_220 (i := 2) rfl
theorem dL_isDone_228 : decode cL_isDone 228 = .ok (.pop, 1) := dk_at k_dL_isDone_220 (i := 3) rfl
theorem dL_isDone_229 : decode cL_isDone 229 = .ok (.goto 29, 3) := dk_at k_dL_isDone_220 (i := 4) rfl
theorem dL_isDone_232 : decode cL_isDone 232 = .ok (.aload_n 0, 1) := dk_at k_dL_isDone_220 (i := 5) rfl
theorem dL_isDone_233 : decode cL_isDone 233 = .ok (.iload 4, 2) := dk_at k_dL_isDone_220 (i := 6) rfl
theorem dL_isDone_235 : decode cL_isDone 235 = .ok (.iload_n 3, 1) := dk_at k_dL_isDone_220 (i := 7) rfl
theorem dL_isDone_236 : decode cL_isDone 236 = .ok (.invokevirtual 81, 3) := dk_at k_dL_isDone_220 (i := 8) rfl
theorem dL_isDone_239 : decode cL_isDone 239 = .ok (.pop, 1) := dk_at k_dL_isDone_220 (i := 9) rfl
theorem dL_isDone_240 : decode cL_isDone 240 = .ok (.goto 18, 3) := dk_at k_dL_isDone_220 (i := 10) rfl
theorem dL_isDone_243 : decode cL_isDone 243 = .ok (.aload_n 0, 1) := dk_at k_dL_isDone_220 (i := 11) rfl
theorem dL_isDone_244 : decode cL_isDone 244 = .ok (.iload_n 1, 1) := dk_at k_dL_isDone_220 (i := 12) rfl
theorem dL_isDone_245 : decode cL_isDone 245 = .ok (.iconst 3, 1) := dk_at k_dL_isDone_220 (i := 13) rfl
theorem dL_isDone_246 : decode cL_isDone 246 = .ok (.ishr, 1) := dk_at k_dL_isDone_220 (i := 14) rfl
theorem dL_isDone_247 : decode cL_isDone 247 = .ok (.invokestatic 26, 3) := dk_at k_dL_isDone_220 (i := 15) rfl
theorem dL_isDone_250 : decode cL_isDone 250 = .ok (.ireturn, 1) := dk_at k_dL_isDone_220 (i := 16) rfl
theorem dL_isDone_251 : decode cL_isDone 251 = .ok (.aload_n 0, 1) := dk_at k_dL_isDone_220 (i := 17) rfl
theorem dL_isDone_252 : decode cL_isDone 252 = .ok (.iload_n 2, 1) := dk_at k_dL_isDone_220 (i := 18) rfl
theorem dL_isDone_253 : decode cL_isDone 253 = .ok (.iconst 0, 1) := dk_at k_dL_isDone_220 (i := 19) rfl
theorem dL_isDone_254 : decode cL_isDone 254 = .ok (.invokevirtual 65, 3) := dk_at k_dL_isDone_220 (i := 20) rfl
theorem dL_isDone_257 : decode cL_isDone 257 = .ok (.pop, 1) := dk_at k_dL_isDone_220 (i := 21) rfl
theorem dL_isDone_258 : decode cL_isDone 258 = .ok (.iconst 1, 1) := dk_at k_dL_isDone_220 (i := 22) rfl
theorem dL_isDone_259 : decode cL_isDone 259 = .ok (.ireturn, 1) := dk_at k_dL_isDone_220 (i := 23) rfl
theorem dL_isDone_260 : decode cL_isDone 260 = .ok (.astore 5, 2) := dk_at k_dL_isDone_220 (i := 24) rfl
theorem dL_isDone_262 : decode cL_isDone 262 = .ok (.iconst 0, 1) := dk_at k_dL_isDone_220 (i := 25) rfl
theorem dL_isDone_263 : decode cL_isDone 263 = .ok (.ireturn, 1) := dk_at k_dL_isDone_220 (i := 26) rfl
theorem k_dL_law_0 : dk cL_law [(0, .aload_n 0, 1), (1, .invokestatic 84, 3), (4, .astore_n 1, 1), (5, .bipush 12, 2), (7, .iconst 5, 1), (8, .multianewarray 87 2, 4), (12, .astore_n 2, 1), (13, .iconst 0, 1), (14, .istore_n 3, 1), (15, .aload_n 1, 1), (16, .iconst 1, 1), (17, .invokevirtual 30, 3), (20, .istore 4, 2), (22, .iconst 0, 1), (23, .istore 5, 2), (25, .iload 5, 2), (27, .bipush 18, 2), (29, .if_icmp .ge 215, 3), (32, .aload_n 1, 1), (33, .invokevirtual 89, 3), (36, .lstore 6, 2), (38, .aload_n 1, 1), (39, .aload_n 0, 1), (40, .bipush 14, 2), (42, .iload 5, 2), (44, .iadd, 1), (45, .invokestatic 12, 3), (48, .invokestatic 93, 3), (51, .ifCond .ne 15, 3), (54, .aload_n 1, 1), (55, .invokevirtual 89, 3), (58, .lload 6, 2)] = true := by decide +kernel
theorem dL_law_0 : decode cL_law 0 = .ok (.aload_n 0, 1) := dk_at k_dL_law_0 (i := 0) rfl
theorem dL_law_1 : decode cL_law 1 = .ok (.invokestatic 84, 3) := dk_at k_dL_law_0 (i := 1) rfl
theorem dL_law_4 : decode cL_law 4 = .ok (.astore_n 1, 1) := dk_at k_dL_law_0 (i := 2) rfl
theorem dL_law_5 : decode cL_law 5 = .ok (.bipush 12, 2) := dk_at k_dL_law_0 (i := 3) rfl
theorem dL_law_7 : decode cL_law 7 = .ok (.iconst 5, 1) := dk_at k_dL_law_0 (i := 4) rfl
theorem dL_law_8 : decode cL_law 8 = .ok (.multianewarray 87 2, 4) := dk_at k_dL_law_0 (i := 5) rfl
theorem dL_law_12 : decode cL_law 12 = .ok (.astore_n 2, 1) := dk_at k_dL_law_0 (i := 6) rfl
theorem dL_law_13 : decode cL_law 13 = .ok (.iconst 0, 1) := dk_at k_dL_law_0 (i := 7) rfl
theorem dL_law_14 : decode cL_law 14 = .ok (.istore_n 3, 1) := dk_at k_dL_law_0 (i := 8) rfl
theorem dL_law_15 : decode cL_law 15 = .ok (.aload_n 1, 1) := dk_at k_dL_law_0 (i := 9) rfl
theorem dL_law_16 : decode cL_law 16 = .ok (.iconst 1, 1) := dk_at k_dL_law_0 (i := 10) rfl
theorem dL_law_17 : decode cL_law 17 = .ok (.invokevirtual 30, 3) := dk_at k_dL_law_0 (i := 11) rfl
theorem dL_law_20 : decode cL_law 20 = .ok (.istore 4, 2) := dk_at k_dL_law_0 (i := 12) rfl
theorem dL_law_22 : decode cL_law 22 = .ok (.iconst 0, 1) := dk_at k_dL_law_0 (i := 13) rfl
theorem dL_law_23 : decode cL_law 23 = .ok (.istore 5, 2) := dk_at k_dL_law_0 (i := 14) rfl
theorem dL_law_25 : decode cL_law 25 = .ok (.iload 5, 2) := dk_at k_dL_law_0 (i := 15) rfl
theorem dL_law_27 : decode cL_law 27 = .ok (.bipush 18, 2) := dk_at k_dL_law_0 (i := 16) rfl
theorem dL_law_29 : decode cL_law 29 = .ok (.if_icmp .ge 215, 3) := dk_at k_dL_law_0 (i := 17) rfl
theorem dL_law_32 : decode cL_law 32 = .ok (.aload_n 1, 1) := dk_at k_dL_law_0 (i := 18) rfl
theorem dL_law_33 : decode cL_law 33 = .ok (.invokevirtual 89, 3) := dk_at k_dL_law_0 (i := 19) rfl
theorem dL_law_36 : decode cL_law 36 = .ok (.lstore 6, 2) := dk_at k_dL_law_0 (i := 20) rfl
theorem dL_law_38 : decode cL_law 38 = .ok (.aload_n 1, 1) := dk_at k_dL_law_0 (i := 21) rfl
theorem dL_law_39 : decode cL_law 39 = .ok (.aload_n 0, 1) := dk_at k_dL_law_0 (i := 22) rfl
theorem dL_law_40 : decode cL_law 40 = .ok (.bipush 14, 2) := dk_at k_dL_law_0 (i := 23) rfl
theorem dL_law_42 : decode cL_law 42 = .ok (.iload 5, 2) := dk_at k_dL_law_0 (i := 24) rfl
theorem dL_law_44 : decode cL_law 44 = .ok (.iadd, 1) := dk_at k_dL_law_0 (i := 25) rfl
theorem dL_law_45 : decode cL_law 45 = .ok (.invokestatic 12, 3) := dk_at k_dL_law_0 (i := 26) rfl
theorem dL_law_48 : decode cL_law 48 = .ok (.invokestatic 93, 3) := dk_at k_dL_law_0 (i := 27) rfl
theorem dL_law_51 : decode cL_law 51 = .ok (.ifCond .ne 15, 3) := dk_at k_dL_law_0 (i := 28) rfl
theorem dL_law_54 : decode cL_law 54 = .ok (.aload_n 1, 1) := dk_at k_dL_law_0 (i := 29) rfl
theorem dL_law_55 : decode cL_law 55 = .ok (.invokevirtual 89, 3) := dk_at k_dL_law_0 (i := 30) rfl
theorem dL_law_58 : decode cL_law 58 = .ok (.lload 6, 2) := dk_at k_dL_law_0 (i := 31) rfl
theorem k_dL_law_60 : dk cL_law [(60, .lcmp, 1), (61, .ifCond .eq 5, 3), (64, .iconst 0, 1), (65, .ireturn, 1), (66, .aload_n 1, 1), (67, .iconst 0, 1), (68, .invokevirtual 30, 3), (71, .istore 8, 2), (73, .aload_n 1, 1), (74, .iconst 1, 1), (75, .invokevirtual 30, 3), (78, .iload 4, 2), (80, .if_icmp .lt 35, 3), (83, .aload_n 1, 1), (84, .iconst 1, 1), (85, .invokevirtual 30, 3), (88, .iload 4, 2), (90, .iconst 1, 1), (91, .iadd, 1), (92, .if_icmp .gt 23, 3), (95, .aload_n 1, 1), (96, .iconst 5, 1), (97, .invokevirtual 30, 3), (100, .iload_n 3, 1), (101, .if_icmp .lt 14, 3), (104, .aload_n 1, 1), (105, .iconst 5, 1), (106, .invokevirtual 30, 3), (109, .iload_n 3, 1), (110, .iconst 1, 1), (111, .iadd, 1), (112, .if_icmp .le 5, 3)] = true := by decide +kernel
theorem dL_law_60 : decode cL_law 60 = .ok (.lcmp, 1) := dk_at k_dL_law_60 (i := 0) rfl
theorem dL_law_61 : decode cL_law 61 = .ok (.ifCond .eq 5, 3) := dk_at k_dL_law_60 (i := 1) rfl
theorem dL_law_64 : decode cL_law 64 = .ok (.iconst 0, 1) := dk_at k_dL_law_60 (i := 2) rfl
theorem dL_law_65 : decode cL_law 65 = .ok (.ireturn, 1) := dk_at k_dL_law_60 (i := 3) rfl
theorem dL_law_66 : decode cL_law 66 = .ok (.aload_n 1, 1) := dk_at k_dL_law_60 (i := 4) rfl
theorem dL_law_67 : decode cL_law 67 = .ok (.iconst 0, 1) := dk_at k_dL_law_60 (i := 5) rfl
theorem dL_law_68 : decode cL_law 68 = .ok (.invokevirtual 30, 3) := dk_at k_dL_law_60 (i := 6) rfl
theorem dL_law_71 : decode cL_law 71 = .ok (.istore 8, 2) := dk_at k_dL_law_60 (i := 7) rfl
theorem dL_law_73 : decode cL_law 73 = .ok (.aload_n 1, 1) := dk_at k_dL_law_60 (i := 8) rfl
theorem dL_law_74 : decode cL_law 74 = .ok (.iconst 1, 1) := dk_at k_dL_law_60 (i := 9) rfl
theorem dL_law_75 : decode cL_law 75 = .ok (.invokevirtual 30, 3) := dk_at k_dL_law_60 (i := 10) rfl
theorem dL_law_78 : decode cL_law 78 = .ok (.iload 4, 2) := dk_at k_dL_law_60 (i := 11) rfl
theorem dL_law_80 : decode cL_law 80 = .ok (.if_icmp .lt 35, 3) := dk_at k_dL_law_60 (i := 12) rfl
theorem dL_law_83 : decode cL_law 83 = .ok (.aload_n 1, 1) := dk_at k_dL_law_60 (i := 13) rfl
theorem dL_law_84 : decode cL_law 84 = .ok (.iconst 1, 1) := dk_at k_dL_law_60 (i := 14) rfl
theorem dL_law_85 : decode cL_law 85 = .ok (.invokevirtual 30, 3) := dk_at k_dL_law_60 (i := 15) rfl
theorem dL_law_88 : decode cL_law 88 = .ok (.iload 4, 2) := dk_at k_dL_law_60 (i := 16) rfl
theorem dL_law_90 : decode cL_law 90 = .ok (.iconst 1, 1) := dk_at k_dL_law_60 (i := 17) rfl
theorem dL_law_91 : decode cL_law 91 = .ok (.iadd, 1) := dk_at k_dL_law_60 (i := 18) rfl
theorem dL_law_92 : decode cL_law 92 = .ok (.if_icmp .gt 23, 3) := dk_at k_dL_law_60 (i := 19) rfl
theorem dL_law_95 : decode cL_law 95 = .ok (.aload_n 1, 1) := dk_at k_dL_law_60 (i := 20) rfl
theorem dL_law_96 : decode cL_law 96 = .ok (.iconst 5, 1) := dk_at k_dL_law_60 (i := 21) rfl
theorem dL_law_97 : decode cL_law 97 = .ok (.invokevirtual 30, 3) := dk_at k_dL_law_60 (i := 22) rfl
theorem dL_law_100 : decode cL_law 100 = .ok (.iload_n 3, 1) := dk_at k_dL_law_60 (i := 23) rfl
theorem dL_law_101 : decode cL_law 101 = .ok (.if_icmp .lt 14, 3) := dk_at k_dL_law_60 (i := 24) rfl
theorem dL_law_104 : decode cL_law 104 = .ok (.aload_n 1, 1) := dk_at k_dL_law_60 (i := 25) rfl
theorem dL_law_105 : decode cL_law 105 = .ok (.iconst 5, 1) := dk_at k_dL_law_60 (i := 26) rfl
theorem dL_law_106 : decode cL_law 106 = .ok (.invokevirtual 30, 3) := dk_at k_dL_law_60 (i := 27) rfl
theorem dL_law_109 : decode cL_law 109 = .ok (.iload_n 3, 1) := dk_at k_dL_law_60 (i := 28) rfl
theorem dL_law_110 : decode cL_law 110 = .ok (.iconst 1, 1) := dk_at k_dL_law_60 (i := 29) rfl
theorem dL_law_111 : decode cL_law 111 = .ok (.iadd, 1) := dk_at k_dL_law_60 (i := 30) rfl
theorem dL_law_112 : decode cL_law 112 = .ok (.if_icmp .le 5, 3) := dk_at k_dL_law_60 (i := 31) rfl
theorem k_dL_law_115 : dk cL_law [(115, .iconst 0, 1), (116, .ireturn, 1), (117, .aload_n 1, 1), (118, .iconst 1, 1), (119, .invokevirtual 30, 3), (122, .istore 4, 2), (124, .iconst 0, 1), (125, .istore 9, 2), (127, .iload 9, 2), (129, .aload_n 1, 1), (130, .iconst 5, 1), (131, .invokevirtual 30, 3), (134, .if_icmp .ge 82, 3), (137, .iconst 0, 1), (138, .istore 10, 2), (140, .iload 10, 2), (142, .iload 8, 2), (144, .if_icmp .ge 66, 3), (147, .aload_n 1, 1), (148, .iload 9, 2), (150, .iload 10, 2), (152, .invokevirtual 96, 3), (155, .istore 11, 2), (157, .iload 9, 2), (159, .iload_n 3, 1), (160, .if_icmp .ge 15, 3), (163, .iload 11, 2), (165, .aload_n 2, 1), (166, .iload 9, 2), (168, .aaload, 1), (169, .iload 10, 2), (171, .iaload, 1)] = true := by decide +kernel
theorem dL_law_115 : decode cL_law 115 = .ok (.iconst 0, 1) := dk_at k_dL_law_115 (i := 0) rfl
theorem dL_law_116 : decode cL_law 116 = .ok (.ireturn, 1) := dk_at k_dL_law_115 (i := 1) rfl
theorem dL_law_117 : decode cL_law 117 = .ok (.aload_n 1, 1) := dk_at k_dL_law_115 (i := 2) rfl
theorem dL_law_118 : decode cL_law 118 = .ok (.iconst 1, 1) := dk_at k_dL_law_115 (i := 3) rfl
theorem dL_law_119 : decode cL_law 119 = .ok (.invokevirtual 30, 3) := dk_at k_dL_law_115 (i := 4) rfl
theorem dL_law_122 : decode cL_law 122 = .ok (.istore 4, 2) := dk_at k_dL_law_115 (i := 5) rfl
theorem dL_law_124 : decode cL_law 124 = .ok (.iconst 0, 1) := dk_at k_dL_law_115 (i := 6) rfl
theorem dL_law_125 : decode cL_law 125 = .ok (.istore 9, 2) := dk_at k_dL_law_115 (i := 7) rfl
theorem dL_law_127 : decode cL_law 127 = .ok (.iload 9, 2) := dk_at k_dL_law_115 (i := 8) rfl
theorem dL_law_129 : decode cL_law 129 = .ok (.aload_n 1, 1) := dk_at k_dL_law_115 (i := 9) rfl
theorem dL_law_130 : decode cL_law 130 = .ok (.iconst 5, 1) := dk_at k_dL_law_115 (i := 10) rfl
theorem dL_law_131 : decode cL_law 131 = .ok (.invokevirtual 30, 3) := dk_at k_dL_law_115 (i := 11) rfl
theorem dL_law_134 : decode cL_law 134 = .ok (.if_icmp .ge 82, 3) := dk_at k_dL_law_115 (i := 12) rfl
theorem dL_law_137 : decode cL_law 137 = .ok (.iconst 0, 1) := dk_at k_dL_law_115 (i := 13) rfl
theorem dL_law_138 : decode cL_law 138 = .ok (.istore 10, 2) := dk_at k_dL_law_115 (i := 14) rfl
theorem dL_law_140 : decode cL_law 140 = .ok (.iload 10, 2) := dk_at k_dL_law_115 (i := 15) rfl
theorem dL_law_142 : decode cL_law 142 = .ok (.iload 8, 2) := dk_at k_dL_law_115 (i := 16) rfl
theorem dL_law_144 : decode cL_law 144 = .ok (.if_icmp .ge 66, 3) := dk_at k_dL_law_115 (i := 17) rfl
theorem dL_law_147 : decode cL_law 147 = .ok (.aload_n 1, 1) := dk_at k_dL_law_115 (i := 18) rfl
theorem dL_law_148 : decode cL_law 148 = .ok (.iload 9, 2) := dk_at k_dL_law_115 (i := 19) rfl
theorem dL_law_150 : decode cL_law 150 = .ok (.iload 10, 2) := dk_at k_dL_law_115 (i := 20) rfl
theorem dL_law_152 : decode cL_law 152 = .ok (.invokevirtual 96, 3) := dk_at k_dL_law_115 (i := 21) rfl
theorem dL_law_155 : decode cL_law 155 = .ok (.istore 11, 2) := dk_at k_dL_law_115 (i := 22) rfl
theorem dL_law_157 : decode cL_law 157 = .ok (.iload 9, 2) := dk_at k_dL_law_115 (i := 23) rfl
theorem dL_law_159 : decode cL_law 159 = .ok (.iload_n 3, 1) := dk_at k_dL_law_115 (i := 24) rfl
theorem dL_law_160 : decode cL_law 160 = .ok (.if_icmp .ge 15, 3) := dk_at k_dL_law_115 (i := 25) rfl
theorem dL_law_163 : decode cL_law 163 = .ok (.iload 11, 2) := dk_at k_dL_law_115 (i := 26) rfl
theorem dL_law_165 : decode cL_law 165 = .ok (.aload_n 2, 1) := dk_at k_dL_law_115 (i := 27) rfl
theorem dL_law_166 : decode cL_law 166 = .ok (.iload 9, 2) := dk_at k_dL_law_115 (i := 28) rfl
theorem dL_law_168 : decode cL_law 168 = .ok (.aaload, 1) := dk_at k_dL_law_115 (i := 29) rfl
theorem dL_law_169 : decode cL_law 169 = .ok (.iload 10, 2) := dk_at k_dL_law_115 (i := 30) rfl
theorem dL_law_171 : decode cL_law 171 = .ok (.iaload, 1) := dk_at k_dL_law_115 (i := 31) rfl
theorem k_dL_law_172 : dk cL_law [(172, .if_icmp .ne 21, 3), (175, .iload 9, 2), (177, .iload_n 3, 1), (178, .if_icmp .lt 17, 3), (181, .iload 11, 2), (183, .aload_n 1, 1), (184, .iload 10, 2), (186, .iconst 3, 1), (187, .invokevirtual 33, 3), (190, .if_icmp .eq 5, 3), (193, .iconst 0, 1), (194, .ireturn, 1), (195, .aload_n 2, 1), (196, .iload 9, 2), (198, .aaload, 1), (199, .iload 10, 2), (201, .iload 11, 2), (203, .iastore, 1), (204, .iinc 10 1, 3), (207, .goto (-67), 3), (210, .iinc 9 1, 3), (213, .goto (-86), 3), (216, .aload_n 1, 1), (217, .iconst 5, 1), (218, .invokevirtual 30, 3), (221, .istore_n 3, 1), (222, .aload_n 1, 1), (223, .invokestatic 99, 3), (226, .ifCond .eq 10, 3), (229, .aload_n 1, 1), (230, .invokestatic 103, 3), (233, .ifCond .ne 5, 3)] = true := by decide +kernel
theorem dL_law_172 : decode cL_law 172 = .ok (.if_icmp .ne 21, 3) := dk_at k_dL_law_172 (i := 0) rfl
theorem dL_law_175 : decode cL_law 175 = .ok (.iload 9, 2) := dk_at k_dL_law_172 (i := 1) rfl
theorem dL_law_177 : decode cL_law 177 = .ok (.iload_n 3, 1) := dk_at k_dL_law_172 (i := 2) rfl
theorem dL_law_178 : decode cL_law 178 = .ok (.if_icmp .lt 17, 3) := dk_at k_dL_law_172 (i := 3) rfl
theorem dL_law_181 : decode cL_law 181 = .ok (.iload 11, 2) := dk_at k_dL_law_172 (i := 4) rfl
theorem dL_law_183 : decode cL_law 183 = .ok (.aload_n 1, 1) := dk_at k_dL_law_172 (i := 5) rfl
theorem dL_law_184 : decode cL_law 184 = .ok (.iload 10, 2) := dk_at k_dL_law_172 (i := 6) rfl
theorem dL_law_186 : decode cL_law 186 = .ok (.iconst 3, 1) := dk_at k_dL_law_172 (i := 7) rfl
theorem dL_law_187 : decode cL_law 187 = .ok (.invokevirtual 33, 3) := dk_at k_dL_law_172 (i := 8) rfl
theorem dL_law_190 : decode cL_law 190 = .ok (.if_icmp .eq 5, 3) := dk_at k_dL_law_172 (i := 9) rfl
theorem dL_law_193 : decode cL_law 193 = .ok (.iconst 0, 1) := dk_at k_dL_law_172 (i := 10) rfl
theorem dL_law_194 : decode cL_law 194 = .ok (.ireturn, 1) := dk_at k_dL_law_172 (i := 11) rfl
theorem dL_law_195 : decode cL_law 195 = .ok (.aload_n 2, 1) := dk_at k_dL_law_172 (i := 12) rfl
theorem dL_law_196 : decode cL_law 196 = .ok (.iload 9, 2) := dk_at k_dL_law_172 (i := 13) rfl
theorem dL_law_198 : decode cL_law 198 = .ok (.aaload, 1) := dk_at k_dL_law_172 (i := 14) rfl
theorem dL_law_199 : decode cL_law 199 = .ok (.iload 10, 2) := dk_at k_dL_law_172 (i := 15) rfl
theorem dL_law_201 : decode cL_law 201 = .ok (.iload 11, 2) := dk_at k_dL_law_172 (i := 16) rfl
theorem dL_law_203 : decode cL_law 203 = .ok (.iastore, 1) := dk_at k_dL_law_172 (i := 17) rfl
theorem dL_law_204 : decode cL_law 204 = .ok (.iinc 10 1, 3) := dk_at k_dL_law_172 (i := 18) rfl
theorem dL_law_207 : decode cL_law 207 = .ok (.goto (-67), 3) := dk_at k_dL_law_172 (i := 19) rfl
theorem dL_law_210 : decode cL_law 210 = .ok (.iinc 9 1, 3) := dk_at k_dL_law_172 (i := 20) rfl
theorem dL_law_213 : decode cL_law 213 = .ok (.goto (-86), 3) := dk_at k_dL_law_172 (i := 21) rfl
theorem dL_law_216 : decode cL_law 216 = .ok (.aload_n 1, 1) := dk_at k_dL_law_172 (i := 22) rfl
theorem dL_law_217 : decode cL_law 217 = .ok (.iconst 5, 1) := dk_at k_dL_law_172 (i := 23) rfl
theorem dL_law_218 : decode cL_law 218 = .ok (.invokevirtual 30, 3) := dk_at k_dL_law_172 (i := 24) rfl
theorem dL_law_221 : decode cL_law 221 = .ok (.istore_n 3, 1) := dk_at k_dL_law_172 (i := 25) rfl
theorem dL_law_222 : decode cL_law 222 = .ok (.aload_n 1, 1) := dk_at k_dL_law_172 (i := 26) rfl
theorem dL_law_223 : decode cL_law 223 = .ok (.invokestatic 99, 3) := dk_at k_dL_law_172 (i := 27) rfl
theorem dL_law_226 : decode cL_law 226 = .ok (.ifCond .eq 10, 3) := dk_at k_dL_law_172 (i := 28) rfl
theorem dL_law_229 : decode cL_law 229 = .ok (.aload_n 1, 1) := dk_at k_dL_law_172 (i := 29) rfl
theorem dL_law_230 : decode cL_law 230 = .ok (.invokestatic 103, 3) := dk_at k_dL_law_172 (i := 30) rfl
theorem dL_law_233 : decode cL_law 233 = .ok (.ifCond .ne 5, 3) := dk_at k_dL_law_172 (i := 31) rfl
theorem k_dL_law_236 : dk cL_law [(236, .iconst 0, 1), (237, .ireturn, 1), (238, .iinc 5 1, 3), (241, .goto (-216), 3), (244, .aload_n 1, 1), (245, .invokevirtual 89, 3), (248, .lstore 5, 2), (250, .aload_n 1, 1), (251, .invokevirtual 106, 3), (254, .ifCond .eq 17, 3), (257, .aload_n 1, 1), (258, .invokevirtual 89, 3), (261, .lload 5, 2), (263, .lcmp, 1), (264, .ifCond .ne 7, 3), (267, .iconst 1, 1), (268, .goto 4, 3), (271, .iconst 0, 1), (272, .ireturn, 1)] = true := by decide +kernel
theorem dL_law_236 : decode cL_law 236 = .ok (.iconst 0, 1) := dk_at k_dL_law_236 (i := 0) rfl
theorem dL_law_237 : decode cL_law 237 = .ok (.ireturn, 1) := dk_at k_dL_law_236 (i := 1) rfl
theorem dL_law_238 : decode cL_law 238 = .ok (.iinc 5 1, 3) := dk_at k_dL_law_236 (i := 2) rfl
theorem dL_law_241 : decode cL_law 241 = .ok (.goto (-216), 3) := dk_at k_dL_law_236 (i := 3) rfl
theorem dL_law_244 : decode cL_law 244 = .ok (.aload_n 1, 1) := dk_at k_dL_law_236 (i := 4) rfl
theorem dL_law_245 : decode cL_law 245 = .ok (.invokevirtual 89, 3) := dk_at k_dL_law_236 (i := 5) rfl
theorem dL_law_248 : decode cL_law 248 = .ok (.lstore 5, 2) := dk_at k_dL_law_236 (i := 6) rfl
theorem dL_law_250 : decode cL_law 250 = .ok (.aload_n 1, 1) := dk_at k_dL_law_236 (i := 7) rfl
theorem dL_law_251 : decode cL_law 251 = .ok (.invokevirtual 106, 3) := dk_at k_dL_law_236 (i := 8) rfl
theorem dL_law_254 : decode cL_law 254 = .ok (.ifCond .eq 17, 3) := dk_at k_dL_law_236 (i := 9) rfl
theorem dL_law_257 : decode cL_law 257 = .ok (.aload_n 1, 1) := dk_at k_dL_law_236 (i := 10) rfl
theorem dL_law_258 : decode cL_law 258 = .ok (.invokevirtual 89, 3) := dk_at k_dL_law_236 (i := 11) rfl
theorem dL_law_261 : decode cL_law 261 = .ok (.lload 5, 2) := dk_at k_dL_law_236 (i := 12) rfl
theorem dL_law_263 : decode cL_law 263 = .ok (.lcmp, 1) := dk_at k_dL_law_236 (i := 13) rfl
theorem dL_law_264 : decode cL_law 264 = .ok (.ifCond .ne 7, 3) := dk_at k_dL_law_236 (i := 14) rfl
theorem dL_law_267 : decode cL_law 267 = .ok (.iconst 1, 1) := dk_at k_dL_law_236 (i := 15) rfl
theorem dL_law_268 : decode cL_law 268 = .ok (.goto 4, 3) := dk_at k_dL_law_236 (i := 16) rfl
theorem dL_law_271 : decode cL_law 271 = .ok (.iconst 0, 1) := dk_at k_dL_law_236 (i := 17) rfl
theorem dL_law_272 : decode cL_law 272 = .ok (.ireturn, 1) := dk_at k_dL_law_236 (i := 18) rfl
theorem k_dL_isSo_0 : dk cL_isSo [(0, .aload_n 0, 1), (1, .iconst 0, 1), (2, .invokevirtual 30, 3), (5, .istore_n 1, 1), (6, .aload_n 0, 1), (7, .iconst 3, 1), (8, .invokevirtual 30, 3), (11, .iconst 1, 1), (12, .if_icmp .ne 7, 3), (15, .iconst 1, 1), (16, .goto 4, 3), (19, .iconst 0, 1), (20, .istore_n 2, 1), (21, .iconst 0, 1), (22, .istore_n 3, 1), (23, .iconst 0, 1), (24, .istore 4, 2), (26, .iconst 0, 1), (27, .istore 5, 2), (29, .iconst 0, 1), (30, .istore 6, 2), (32, .iload 6, 2), (34, .aload_n 0, 1), (35, .iconst 1, 1), (36, .invokevirtual 30, 3), (39, .if_icmp .ge 19, 3), (42, .iload_n 3, 1), (43, .aload_n 0, 1), (44, .iload 6, 2), (46, .iconst 5, 1), (47, .invokevirtual 110, 3), (50, .iadd, 1)] = true := by decide +kernel
theorem dL_isSo_0 : decode cL_isSo 0 = .ok (.aload_n 0, 1) := dk_at k_dL_isSo_0 (i := 0) rfl
theorem dL_isSo_1 : decode cL_isSo 1 = .ok (.iconst 0, 1) := dk_at k_dL_isSo_0 (i := 1) rfl
theorem dL_isSo_2 : decode cL_isSo 2 = .ok (.invokevirtual 30, 3) := dk_at k_dL_isSo_0 (i := 2) rfl
theorem dL_isSo_5 : decode cL_isSo 5 = .ok (.istore_n 1, 1) := dk_at k_dL_isSo_0 (i := 3) rfl
theorem dL_isSo_6 : decode cL_isSo 6 = .ok (.aload_n 0, 1) := dk_at k_dL_isSo_0 (i := 4) rfl
theorem dL_isSo_7 : decode cL_isSo 7 = .ok (.iconst 3, 1) := dk_at k_dL_isSo_0 (i := 5) rfl
theorem dL_isSo_8 : decode cL_isSo 8 = .ok (.invokevirtual 30, 3) := dk_at k_dL_isSo_0 (i := 6) rfl
theorem dL_isSo_11 : decode cL_isSo 11 = .ok (.iconst 1, 1) := dk_at k_dL_isSo_0 (i := 7) rfl
theorem dL_isSo_12 : decode cL_isSo 12 = .ok (.if_icmp .ne 7, 3) := dk_at k_dL_isSo_0 (i := 8) rfl
theorem dL_isSo_15 : decode cL_isSo 15 = .ok (.iconst 1, 1) := dk_at k_dL_isSo_0 (i := 9) rfl
theorem dL_isSo_16 : decode cL_isSo 16 = .ok (.goto 4, 3) := dk_at k_dL_isSo_0 (i := 10) rfl
theorem dL_isSo_19 : decode cL_isSo 19 = .ok (.iconst 0, 1) := dk_at k_dL_isSo_0 (i := 11) rfl
theorem dL_isSo_20 : decode cL_isSo 20 = .ok (.istore_n 2, 1) := dk_at k_dL_isSo_0 (i := 12) rfl
theorem dL_isSo_21 : decode cL_isSo 21 = .ok (.iconst 0, 1) := dk_at k_dL_isSo_0 (i := 13) rfl
theorem dL_isSo_22 : decode cL_isSo 22 = .ok (.istore_n 3, 1) := dk_at k_dL_isSo_0 (i := 14) rfl
theorem dL_isSo_23 : decode cL_isSo 23 = .ok (.iconst 0, 1) := dk_at k_dL_isSo_0 (i := 15) rfl
theorem dL_isSo_24 : decode cL_isSo 24 = .ok (.istore 4, 2) := dk_at k_dL_isSo_0 (i := 16) rfl
theorem dL_isSo_26 : decode cL_isSo 26 = .ok (.iconst 0, 1) := dk_at k_dL_isSo_0 (i := 17) rfl
theorem dL_isSo_27 : decode cL_isSo 27 = .ok (.istore 5, 2) := dk_at k_dL_isSo_0 (i := 18) rfl
theorem dL_isSo_29 : decode cL_isSo 29 = .ok (.iconst 0, 1) := dk_at k_dL_isSo_0 (i := 19) rfl
theorem dL_isSo_30 : decode cL_isSo 30 = .ok (.istore 6, 2) := dk_at k_dL_isSo_0 (i := 20) rfl
theorem dL_isSo_32 : decode cL_isSo 32 = .ok (.iload 6, 2) := dk_at k_dL_isSo_0 (i := 21) rfl
theorem dL_isSo_34 : decode cL_isSo 34 = .ok (.aload_n 0, 1) := dk_at k_dL_isSo_0 (i := 22) rfl
theorem dL_isSo_35 : decode cL_isSo 35 = .ok (.iconst 1, 1) := dk_at k_dL_isSo_0 (i := 23) rfl
theorem dL_isSo_36 : decode cL_isSo 36 = .ok (.invokevirtual 30, 3) := dk_at k_dL_isSo_0 (i := 24) rfl
theorem dL_isSo_39 : decode cL_isSo 39 = .ok (.if_icmp .ge 19, 3) := dk_at k_dL_isSo_0 (i := 25) rfl
theorem dL_isSo_42 : decode cL_isSo 42 = .ok (.iload_n 3, 1) := dk_at k_dL_isSo_0 (i := 26) rfl
theorem dL_isSo_43 : decode cL_isSo 43 = .ok (.aload_n 0, 1) := dk_at k_dL_isSo_0 (i := 27) rfl
theorem dL_isSo_44 : decode cL_isSo 44 = .ok (.iload 6, 2) := dk_at k_dL_isSo_0 (i := 28) rfl
theorem dL_isSo_46 : decode cL_isSo 46 = .ok (.iconst 5, 1) := dk_at k_dL_isSo_0 (i := 29) rfl
theorem dL_isSo_47 : decode cL_isSo 47 = .ok (.invokevirtual 110, 3) := dk_at k_dL_isSo_0 (i := 30) rfl
theorem dL_isSo_50 : decode cL_isSo 50 = .ok (.iadd, 1) := dk_at k_dL_isSo_0 (i := 31) rfl
theorem k_dL_isSo_51 : dk cL_isSo [(51, .istore_n 3, 1), (52, .iinc 6 1, 3), (55, .goto (-23), 3), (58, .iconst 0, 1), (59, .istore 6, 2), (61, .iload 6, 2), (63, .iload_n 1, 1), (64, .if_icmp .ge 172, 3), (67, .aload_n 0, 1), (68, .iload 6, 2), (70, .iconst 1, 1), (71, .invokevirtual 33, 3), (74, .istore 7, 2), (76, .aload_n 0, 1), (77, .iload 6, 2), (79, .iconst 3, 1), (80, .invokevirtual 33, 3), (83, .istore 8, 2), (85, .aload_n 0, 1), (86, .iload 6, 2), (88, .iconst 5, 1), (89, .invokevirtual 33, 3), (92, .istore 9, 2), (94, .iload 4, 2), (96, .iload 8, 2), (98, .ifCond .lt 7, 3), (101, .iconst 1, 1), (102, .goto 4, 3), (105, .iconst 0, 1), (106, .iadd, 1), (107, .istore 4, 2), (109, .iload 5, 2)] = true := by decide +kernel
theorem dL_isSo_51 : decode cL_isSo 51 = .ok (.istore_n 3, 1) := dk_at k_dL_isSo_51 (i := 0) rfl
theorem dL_isSo_52 : decode cL_isSo 52 = .ok (.iinc 6 1, 3) := dk_at k_dL_isSo_51 (i := 1) rfl
theorem dL_isSo_55 : decode cL_isSo 55 = .ok (.goto (-23), 3) := dk_at k_dL_isSo_51 (i := 2) rfl
theorem dL_isSo_58 : decode cL_isSo 58 = .ok (.iconst 0, 1) := dk_at k_dL_isSo_51 (i := 3) rfl
theorem dL_isSo_59 : decode cL_isSo 59 = .ok (.istore 6, 2) := dk_at k_dL_isSo_51 (i := 4) rfl
theorem dL_isSo_61 : decode cL_isSo 61 = .ok (.iload 6, 2) := dk_at k_dL_isSo_51 (i := 5) rfl
theorem dL_isSo_63 : decode cL_isSo 63 = .ok (.iload_n 1, 1) := dk_at k_dL_isSo_51 (i := 6) rfl
theorem dL_isSo_64 : decode cL_isSo 64 = .ok (.if_icmp .ge 172, 3) := dk_at k_dL_isSo_51 (i := 7) rfl
theorem dL_isSo_67 : decode cL_isSo 67 = .ok (.aload_n 0, 1) := dk_at k_dL_isSo_51 (i := 8) rfl
theorem dL_isSo_68 : decode cL_isSo 68 = .ok (.iload 6, 2) := dk_at k_dL_isSo_51 (i := 9) rfl
theorem dL_isSo_70 : decode cL_isSo 70 = .ok (.iconst 1, 1) := dk_at k_dL_isSo_51 (i := 10) rfl
theorem dL_isSo_71 : decode cL_isSo 71 = .ok (.invokevirtual 33, 3) := dk_at k_dL_isSo_51 (i := 11) rfl
theorem dL_isSo_74 : decode cL_isSo 74 = .ok (.istore 7, 2) := dk_at k_dL_isSo_51 (i := 12) rfl
theorem dL_isSo_76 : decode cL_isSo 76 = .ok (.aload_n 0, 1) := dk_at k_dL_isSo_51 (i := 13) rfl
theorem dL_isSo_77 : decode cL_isSo 77 = .ok (.iload 6, 2) := dk_at k_dL_isSo_51 (i := 14) rfl
theorem dL_isSo_79 : decode cL_isSo 79 = .ok (.iconst 3, 1) := dk_at k_dL_isSo_51 (i := 15) rfl
theorem dL_isSo_80 : decode cL_isSo 80 = .ok (.invokevirtual 33, 3) := dk_at k_dL_isSo_51 (i := 16) rfl
theorem dL_isSo_83 : decode cL_isSo 83 = .ok (.istore 8, 2) := dk_at k_dL_isSo_51 (i := 17) rfl
theorem dL_isSo_85 : decode cL_isSo 85 = .ok (.aload_n 0, 1) := dk_at k_dL_isSo_51 (i := 18) rfl
theorem dL_isSo_86 : decode cL_isSo 86 = .ok (.iload 6, 2) := dk_at k_dL_isSo_51 (i := 19) rfl
theorem dL_isSo_88 : decode cL_isSo 88 = .ok (.iconst 5, 1) := dk_at k_dL_isSo_51 (i := 20) rfl
theorem dL_isSo_89 : decode cL_isSo 89 = .ok (.invokevirtual 33, 3) := dk_at k_dL_isSo_51 (i := 21) rfl
theorem dL_isSo_92 : decode cL_isSo 92 = .ok (.istore 9, 2) := dk_at k_dL_isSo_51 (i := 22) rfl
theorem dL_isSo_94 : decode cL_isSo 94 = .ok (.iload 4, 2) := dk_at k_dL_isSo_51 (i := 23) rfl
theorem dL_isSo_96 : decode cL_isSo 96 = .ok (.iload 8, 2) := dk_at k_dL_isSo_51 (i := 24) rfl
theorem dL_isSo_98 : decode cL_isSo 98 = .ok (.ifCond .lt 7, 3) := dk_at k_dL_isSo_51 (i := 25) rfl
theorem dL_isSo_101 : decode cL_isSo 101 = .ok (.iconst 1, 1) := dk_at k_dL_isSo_51 (i := 26) rfl
theorem dL_isSo_102 : decode cL_isSo 102 = .ok (.goto 4, 3) := dk_at k_dL_isSo_51 (i := 27) rfl
theorem dL_isSo_105 : decode cL_isSo 105 = .ok (.iconst 0, 1) := dk_at k_dL_isSo_51 (i := 28) rfl
theorem dL_isSo_106 : decode cL_isSo 106 = .ok (.iadd, 1) := dk_at k_dL_isSo_51 (i := 29) rfl
theorem dL_isSo_107 : decode cL_isSo 107 = .ok (.istore 4, 2) := dk_at k_dL_isSo_51 (i := 30) rfl
theorem dL_isSo_109 : decode cL_isSo 109 = .ok (.iload 5, 2) := dk_at k_dL_isSo_51 (i := 31) rfl
theorem k_dL_isSo_111 : dk cL_isSo [(111, .aload_n 0, 1), (112, .iload 6, 2), (114, .iconst 4, 1), (115, .invokevirtual 33, 3), (118, .iconst 0, 1), (119, .iload 9, 2), (121, .invokestatic 56, 3), (124, .imul, 1), (125, .iadd, 1), (126, .istore 5, 2), (128, .iload 7, 2), (130, .ifCond .ne 7, 3), (133, .iconst 1, 1), (134, .goto 4, 3), (137, .iconst 0, 1), (138, .iload_n 2, 1), (139, .if_icmp .ne 89, 3), (142, .iload 8, 2), (144, .ifCond .lt 13, 3), (147, .iload 7, 2), (149, .iload 8, 2), (151, .ishr, 1), (152, .iconst 1, 1), (153, .iand, 1), (154, .ifCond .eq 74, 3), (157, .iload 7, 2), (159, .invokestatic 113, 3), (162, .iconst 1, 1), (163, .if_icmp .ne 8, 3), (166, .iload 8, 2), (168, .ifCond .lt 60, 3), (171, .iload 9, 2)] = true := by decide +kernel
theorem dL_isSo_111 : decode cL_isSo 111 = .ok (.aload_n 0, 1) := dk_at k_dL_isSo_111 (i := 0) rfl
theorem dL_isSo_112 : decode cL_isSo 112 = .ok (.iload 6, 2) := dk_at k_dL_isSo_111 (i := 1) rfl
theorem dL_isSo_114 : decode cL_isSo 114 = .ok (.iconst 4, 1) := dk_at k_dL_isSo_111 (i := 2) rfl
theorem dL_isSo_115 : decode cL_isSo 115 = .ok (.invokevirtual 33, 3) := dk_at k_dL_isSo_111 (i := 3) rfl
theorem dL_isSo_118 : decode cL_isSo 118 = .ok (.iconst 0, 1) := dk_at k_dL_isSo_111 (i := 4) rfl
theorem dL_isSo_119 : decode cL_isSo 119 = .ok (.iload 9, 2) := dk_at k_dL_isSo_111 (i := 5) rfl
theorem dL_isSo_121 : decode cL_isSo 121 = .ok (.invokestatic 56, 3) := dk_at k_dL_isSo_111 (i := 6) rfl
theorem dL_isSo_124 : decode cL_isSo 124 = .ok (.imul, 1) := dk_at k_dL_isSo_111 (i := 7) rfl
theorem dL_isSo_125 : decode cL_isSo 125 = .ok (.iadd, 1) := dk_at k_dL_isSo_111 (i := 8) rfl
theorem dL_isSo_126 : decode cL_isSo 126 = .ok (.istore 5, 2) := dk_at k_dL_isSo_111 (i := 9) rfl
theorem dL_isSo_128 : decode cL_isSo 128 = .ok (.iload 7, 2) := dk_at k_dL_isSo_111 (i := 10) rfl
theorem dL_isSo_130 : decode cL_isSo 130 = .ok (.ifCond .ne 7, 3) := dk_at k_dL_isSo_111 (i := 11) rfl
theorem dL_isSo_133 : decode cL_isSo 133 = .ok (.iconst 1, 1) := dk_at k_dL_isSo_111 (i := 12) rfl
theorem dL_isSo_134 : decode cL_isSo 134 = .ok (.goto 4, 3) := dk_at k_dL_isSo_111 (i := 13) rfl
theorem dL_isSo_137 : decode cL_isSo 137 = .ok (.iconst 0, 1) := dk_at k_dL_isSo_111 (i := 14) rfl
theorem dL_isSo_138 : decode cL_isSo 138 = .ok (.iload_n 2, 1) := dk_at k_dL_isSo_111 (i := 15) rfl
theorem dL_isSo_139 : decode cL_isSo 139 = .ok (.if_icmp .ne 89, 3) := dk_at k_dL_isSo_111 (i := 16) rfl
theorem dL_isSo_142 : decode cL_isSo 142 = .ok (.iload 8, 2) := dk_at k_dL_isSo_111 (i := 17) rfl
theorem dL_isSo_144 : decode cL_isSo 144 = .ok (.ifCond .lt 13, 3) := dk_at k_dL_isSo_111 (i := 18) rfl
theorem dL_isSo_147 : decode cL_isSo 147 = .ok (.iload 7, 2) := dk_at k_dL_isSo_111 (i := 19) rfl
theorem dL_isSo_149 : decode cL_isSo 149 = .ok (.iload 8, 2) := dk_at k_dL_isSo_111 (i := 20) rfl
theorem dL_isSo_151 : decode cL_isSo 151 = .ok (.ishr, 1) := dk_at k_dL_isSo_111 (i := 21) rfl
theorem dL_isSo_152 : decode cL_isSo 152 = .ok (.iconst 1, 1) := dk_at k_dL_isSo_111 (i := 22) rfl
theorem dL_isSo_153 : decode cL_isSo 153 = .ok (.iand, 1) := dk_at k_dL_isSo_111 (i := 23) rfl
theorem dL_isSo_154 : decode cL_isSo 154 = .ok (.ifCond .eq 74, 3) := dk_at k_dL_isSo_111 (i := 24) rfl
theorem dL_isSo_157 : decode cL_isSo 157 = .ok (.iload 7, 2) := dk_at k_dL_isSo_111 (i := 25) rfl
theorem dL_isSo_159 : decode cL_isSo 159 = .ok (.invokestatic 113, 3) := dk_at k_dL_isSo_111 (i := 26) rfl
theorem dL_isSo_162 : decode cL_isSo 162 = .ok (.iconst 1, 1) := dk_at k_dL_isSo_111 (i := 27) rfl
theorem dL_isSo_163 : decode cL_isSo 163 = .ok (.if_icmp .ne 8, 3) := dk_at k_dL_isSo_111 (i := 28) rfl
theorem dL_isSo_166 : decode cL_isSo 166 = .ok (.iload 8, 2) := dk_at k_dL_isSo_111 (i := 29) rfl
theorem dL_isSo_168 : decode cL_isSo 168 = .ok (.ifCond .lt 60, 3) := dk_at k_dL_isSo_111 (i := 30) rfl
theorem dL_isSo_171 : decode cL_isSo 171 = .ok (.iload 9, 2) := dk_at k_dL_isSo_111 (i := 31) rfl
theorem k_dL_isSo_173 : dk cL_isSo [(173, .ifCond .lt 13, 3), (176, .iload 7, 2), (178, .iload 9, 2), (180, .ishr, 1), (181, .iconst 1, 1), (182, .iand, 1), (183, .ifCond .eq 45, 3), (186, .iload 9, 2), (188, .ifCond .lt 7, 3), (191, .iconst 1, 1), (192, .goto 4, 3), (195, .iconst 0, 1), (196, .aload_n 0, 1), (197, .bipush 7, 2), (199, .invokevirtual 30, 3), (202, .ifCond .lt 7, 3), (205, .iconst 1, 1), (206, .goto 4, 3), (209, .iconst 0, 1), (210, .if_icmp .ne 18, 3), (213, .aload_n 0, 1), (214, .iload 6, 2), (216, .iconst 2, 1), (217, .invokevirtual 33, 3), (220, .iload 7, 2), (222, .invokestatic 113, 3), (225, .if_icmp .eq 5, 3), (228, .iconst 0, 1), (229, .ireturn, 1), (230, .iinc 6 1, 3), (233, .goto (-172), 3), (236, .iconst 0, 1)] = true := by decide +kernel
theorem dL_isSo_173 : decode cL_isSo 173 = .ok (.ifCond .lt 13, 3) := dk_at k_dL_isSo_173 (i := 0) rfl
theorem dL_isSo_176 : decode cL_isSo 176 = .ok (.iload 7, 2) := dk_at k_dL_isSo_173 (i := 1) rfl
theorem dL_isSo_178 : decode cL_isSo 178 = .ok (.iload 9, 2) := dk_at k_dL_isSo_173 (i := 2) rfl
theorem dL_isSo_180 : decode cL_isSo 180 = .ok (.ishr, 1) := dk_at k_dL_isSo_173 (i := 3) rfl
theorem dL_isSo_181 : decode cL_isSo 181 = .ok (.iconst 1, 1) := dk_at k_dL_isSo_173 (i := 4) rfl
theorem dL_isSo_182 : decode cL_isSo 182 = .ok (.iand, 1) := dk_at k_dL_isSo_173 (i := 5) rfl
theorem dL_isSo_183 : decode cL_isSo 183 = .ok (.ifCond .eq 45, 3) := dk_at k_dL_isSo_173 (i := 6) rfl
theorem dL_isSo_186 : decode cL_isSo 186 = .ok (.iload 9, 2) := dk_at k_dL_isSo_173 (i := 7) rfl
theorem dL_isSo_188 : decode cL_isSo 188 = .ok (.ifCond .lt 7, 3) := dk_at k_dL_isSo_173 (i := 8) rfl
theorem dL_isSo_191 : decode cL_isSo 191 = .ok (.iconst 1, 1) := dk_at k_dL_isSo_173 (i := 9) rfl
theorem dL_isSo_192 : decode cL_isSo 192 = .ok (.goto 4, 3) := dk_at k_dL_isSo_173 (i := 10) rfl
theorem dL_isSo_195 : decode cL_isSo 195 = .ok (.iconst 0, 1) := dk_at k_dL_isSo_173 (i := 11) rfl
theorem dL_isSo_196 : decode cL_isSo 196 = .ok (.aload_n 0, 1) := dk_at k_dL_isSo_173 (i := 12) rfl
theorem dL_isSo_197 : decode cL_isSo 197 = .ok (.bipush 7, 2) := dk_at k_dL_isSo_173 (i := 13) rfl
theorem dL_isSo_199 : decode cL_isSo 199 = .ok (.invokevirtual 30, 3) := dk_at k_dL_isSo_173 (i := 14) rfl
theorem dL_isSo_202 : decode cL_isSo 202 = .ok (.ifCond .lt 7, 3) := dk_at k_dL_isSo_173 (i := 15) rfl
theorem dL_isSo_205 : decode cL_isSo 205 = .ok (.iconst 1, 1) := dk_at k_dL_isSo_173 (i := 16) rfl
theorem dL_isSo_206 : decode cL_isSo 206 = .ok (.goto 4, 3) := dk_at k_dL_isSo_173 (i := 17) rfl
theorem dL_isSo_209 : decode cL_isSo 209 = .ok (.iconst 0, 1) := dk_at k_dL_isSo_173 (i := 18) rfl
theorem dL_isSo_210 : decode cL_isSo 210 = .ok (.if_icmp .ne 18, 3) := dk_at k_dL_isSo_173 (i := 19) rfl
theorem dL_isSo_213 : decode cL_isSo 213 = .ok (.aload_n 0, 1) := dk_at k_dL_isSo_173 (i := 20) rfl
theorem dL_isSo_214 : decode cL_isSo 214 = .ok (.iload 6, 2) := dk_at k_dL_isSo_173 (i := 21) rfl
theorem dL_isSo_216 : decode cL_isSo 216 = .ok (.iconst 2, 1) := dk_at k_dL_isSo_173 (i := 22) rfl
theorem dL_isSo_217 : decode cL_isSo 217 = .ok (.invokevirtual 33, 3) := dk_at k_dL_isSo_173 (i := 23) rfl
theorem dL_isSo_220 : decode cL_isSo 220 = .ok (.iload 7, 2) := dk_at k_dL_isSo_173 (i := 24) rfl
theorem dL_isSo_222 : decode cL_isSo 222 = .ok (.invokestatic 113, 3) := dk_at k_dL_isSo_173 (i := 25) rfl
theorem dL_isSo_225 : decode cL_isSo 225 = .ok (.if_icmp .eq 5, 3) := dk_at k_dL_isSo_173 (i := 26) rfl
theorem dL_isSo_228 : decode cL_isSo 228 = .ok (.iconst 0, 1) := dk_at k_dL_isSo_173 (i := 27) rfl
theorem dL_isSo_229 : decode cL_isSo 229 = .ok (.ireturn, 1) := dk_at k_dL_isSo_173 (i := 28) rfl
theorem dL_isSo_230 : decode cL_isSo 230 = .ok (.iinc 6 1, 3) := dk_at k_dL_isSo_173 (i := 29) rfl
theorem dL_isSo_233 : decode cL_isSo 233 = .ok (.goto (-172), 3) := dk_at k_dL_isSo_173 (i := 30) rfl
theorem dL_isSo_236 : decode cL_isSo 236 = .ok (.iconst 0, 1) := dk_at k_dL_isSo_173 (i := 31) rfl
theorem k_dL_isSo_237 : dk cL_isSo [(237, .istore 6, 2), (239, .iconst 0, 1), (240, .istore 7, 2), (242, .iload 7, 2), (244, .bipush 6, 2), (246, .if_icmp .ge 117, 3), (249, .aload_n 0, 1), (250, .iload 7, 2), (252, .iconst 0, 1), (253, .invokevirtual 118, 3), (256, .istore 8, 2), (258, .iconst 0, 1), (259, .istore 9, 2), (261, .iconst 0, 1), (262, .istore 10, 2), (264, .iload 10, 2), (266, .iload_n 1, 1), (267, .if_icmp .ge 46, 3), (270, .iload 9, 2), (272, .iload 8, 2), (274, .ifCond .lt 29, 3), (277, .aload_n 0, 1), (278, .iload 7, 2), (280, .iload 10, 2), (282, .invokevirtual 121, 3), (285, .aload_n 0, 1), (286, .iload 8, 2), (288, .iload 10, 2), (290, .invokevirtual 96, 3), (293, .if_icmp .eq 10, 3), (296, .iconst 1, 1), (297, .iload 10, 2)] = true := by decide +kernel
theorem dL_isSo_237 : decode cL_isSo 237 = .ok (.istore 6, 2) := dk_at k_dL_isSo_237 (i := 0) rfl
theorem dL_isSo_239 : decode cL_isSo 239 = .ok (.iconst 0, 1) := dk_at k_dL_isSo_237 (i := 1) rfl
theorem dL_isSo_240 : decode cL_isSo 240 = .ok (.istore 7, 2) := dk_at k_dL_isSo_237 (i := 2) rfl
theorem dL_isSo_242 : decode cL_isSo 242 = .ok (.iload 7, 2) := dk_at k_dL_isSo_237 (i := 3) rfl
theorem dL_isSo_244 : decode cL_isSo 244 = .ok (.bipush 6, 2) := dk_at k_dL_isSo_237 (i := 4) rfl
theorem dL_isSo_246 : decode cL_isSo 246 = .ok (.if_icmp .ge 117, 3) := dk_at k_dL_isSo_237 (i := 5) rfl
theorem dL_isSo_249 : decode cL_isSo 249 = .ok (.aload_n 0, 1) := dk_at k_dL_isSo_237 (i := 6) rfl
theorem dL_isSo_250 : decode cL_isSo 250 = .ok (.iload 7, 2) := dk_at k_dL_isSo_237 (i := 7) rfl
theorem dL_isSo_252 : decode cL_isSo 252 = .ok (.iconst 0, 1) := dk_at k_dL_isSo_237 (i := 8) rfl
theorem dL_isSo_253 : decode cL_isSo 253 = .ok (.invokevirtual 118, 3) := dk_at k_dL_isSo_237 (i := 9) rfl
theorem dL_isSo_256 : decode cL_isSo 256 = .ok (.istore 8, 2) := dk_at k_dL_isSo_237 (i := 10) rfl
theorem dL_isSo_258 : decode cL_isSo 258 = .ok (.iconst 0, 1) := dk_at k_dL_isSo_237 (i := 11) rfl
theorem dL_isSo_259 : decode cL_isSo 259 = .ok (.istore 9, 2) := dk_at k_dL_isSo_237 (i := 12) rfl
theorem dL_isSo_261 : decode cL_isSo 261 = .ok (.iconst 0, 1) := dk_at k_dL_isSo_237 (i := 13) rfl
theorem dL_isSo_262 : decode cL_isSo 262 = .ok (.istore 10, 2) := dk_at k_dL_isSo_237 (i := 14) rfl
theorem dL_isSo_264 : decode cL_isSo 264 = .ok (.iload 10, 2) := dk_at k_dL_isSo_237 (i := 15) rfl
theorem dL_isSo_266 : decode cL_isSo 266 = .ok (.iload_n 1, 1) := dk_at k_dL_isSo_237 (i := 16) rfl
theorem dL_isSo_267 : decode cL_isSo 267 = .ok (.if_icmp .ge 46, 3) := dk_at k_dL_isSo_237 (i := 17) rfl
theorem dL_isSo_270 : decode cL_isSo 270 = .ok (.iload 9, 2) := dk_at k_dL_isSo_237 (i := 18) rfl
theorem dL_isSo_272 : decode cL_isSo 272 = .ok (.iload 8, 2) := dk_at k_dL_isSo_237 (i := 19) rfl
theorem dL_isSo_274 : decode cL_isSo 274 = .ok (.ifCond .lt 29, 3) := dk_at k_dL_isSo_237 (i := 20) rfl
theorem dL_isSo_277 : decode cL_isSo 277 = .ok (.aload_n 0, 1) := dk_at k_dL_isSo_237 (i := 21) rfl
theorem dL_isSo_278 : decode cL_isSo 278 = .ok (.iload 7, 2) := dk_at k_dL_isSo_237 (i := 22) rfl
theorem dL_isSo_280 : decode cL_isSo 280 = .ok (.iload 10, 2) := dk_at k_dL_isSo_237 (i := 23) rfl
theorem dL_isSo_282 : decode cL_isSo 282 = .ok (.invokevirtual 121, 3) := dk_at k_dL_isSo_237 (i := 24) rfl
theorem dL_isSo_285 : decode cL_isSo 285 = .ok (.aload_n 0, 1) := dk_at k_dL_isSo_237 (i := 25) rfl
theorem dL_isSo_286 : decode cL_isSo 286 = .ok (.iload 8, 2) := dk_at k_dL_isSo_237 (i := 26) rfl
theorem dL_isSo_288 : decode cL_isSo 288 = .ok (.iload 10, 2) := dk_at k_dL_isSo_237 (i := 27) rfl
theorem dL_isSo_290 : decode cL_isSo 290 = .ok (.invokevirtual 96, 3) := dk_at k_dL_isSo_237 (i := 28) rfl
theorem dL_isSo_293 : decode cL_isSo 293 = .ok (.if_icmp .eq 10, 3) := dk_at k_dL_isSo_237 (i := 29) rfl
theorem dL_isSo_296 : decode cL_isSo 296 = .ok (.iconst 1, 1) := dk_at k_dL_isSo_237 (i := 30) rfl
theorem dL_isSo_297 : decode cL_isSo 297 = .ok (.iload 10, 2) := dk_at k_dL_isSo_237 (i := 31) rfl
theorem k_dL_isSo_299 : dk cL_isSo [(299, .ishl, 1), (300, .goto 4, 3), (303, .iconst 0, 1), (304, .ior, 1), (305, .istore 9, 2), (307, .iinc 10 1, 3), (310, .goto (-46), 3), (313, .iload 6, 2), (315, .iload 9, 2), (317, .ifCond .le 7, 3), (320, .iconst 1, 1), (321, .goto 4, 3), (324, .iconst 0, 1), (325, .iadd, 1), (326, .istore 6, 2), (328, .aload_n 0, 1), (329, .iload 7, 2), (331, .iconst 2, 1), (332, .invokevirtual 118, 3), (335, .iload 9, 2), (337, .if_icmp .ne 18, 3), (340, .aload_n 0, 1), (341, .iload 7, 2), (343, .iconst 1, 1), (344, .invokevirtual 118, 3), (347, .iload 9, 2), (349, .invokestatic 113, 3), (352, .if_icmp .eq 5, 3), (355, .iconst 0, 1), (356, .ireturn, 1), (357, .iinc 7 1, 3), (360, .goto (-118), 3)] = true := by decide +kernel
theorem dL_isSo_299 : decode cL_isSo 299 = .ok (.ishl, 1) := dk_at k_dL_isSo_299 (i := 0) rfl
theorem dL_isSo_300 : decode cL_isSo 300 = .ok (.goto 4, 3) := dk_at k_dL_isSo_299 (i := 1) rfl
theorem dL_isSo_303 : decode cL_isSo 303 = .ok (.iconst 0, 1) := dk_at k_dL_isSo_299 (i := 2) rfl
theorem dL_isSo_304 : decode cL_isSo 304 = .ok (.ior, 1) := dk_at k_dL_isSo_299 (i := 3) rfl
theorem dL_isSo_305 : decode cL_isSo 305 = .ok (.istore 9, 2) := dk_at k_dL_isSo_299 (i := 4) rfl
theorem dL_isSo_307 : decode cL_isSo 307 = .ok (.iinc 10 1, 3) := dk_at k_dL_isSo_299 (i := 5) rfl
theorem dL_isSo_310 : decode cL_isSo 310 = .ok (.goto (-46), 3) := dk_at k_dL_isSo_299 (i := 6) rfl
theorem dL_isSo_313 : decode cL_isSo 313 = .ok (.iload 6, 2) := dk_at k_dL_isSo_299 (i := 7) rfl
theorem dL_isSo_315 : decode cL_isSo 315 = .ok (.iload 9, 2) := dk_at k_dL_isSo_299 (i := 8) rfl
theorem dL_isSo_317 : decode cL_isSo 317 = .ok (.ifCond .le 7, 3) := dk_at k_dL_isSo_299 (i := 9) rfl
theorem dL_isSo_320 : decode cL_isSo 320 = .ok (.iconst 1, 1) := dk_at k_dL_isSo_299 (i := 10) rfl
theorem dL_isSo_321 : decode cL_isSo 321 = .ok (.goto 4, 3) := dk_at k_dL_isSo_299 (i := 11) rfl
theorem dL_isSo_324 : decode cL_isSo 324 = .ok (.iconst 0, 1) := dk_at k_dL_isSo_299 (i := 12) rfl
theorem dL_isSo_325 : decode cL_isSo 325 = .ok (.iadd, 1) := dk_at k_dL_isSo_299 (i := 13) rfl
theorem dL_isSo_326 : decode cL_isSo 326 = .ok (.istore 6, 2) := dk_at k_dL_isSo_299 (i := 14) rfl
theorem dL_isSo_328 : decode cL_isSo 328 = .ok (.aload_n 0, 1) := dk_at k_dL_isSo_299 (i := 15) rfl
theorem dL_isSo_329 : decode cL_isSo 329 = .ok (.iload 7, 2) := dk_at k_dL_isSo_299 (i := 16) rfl
theorem dL_isSo_331 : decode cL_isSo 331 = .ok (.iconst 2, 1) := dk_at k_dL_isSo_299 (i := 17) rfl
theorem dL_isSo_332 : decode cL_isSo 332 = .ok (.invokevirtual 118, 3) := dk_at k_dL_isSo_299 (i := 18) rfl
theorem dL_isSo_335 : decode cL_isSo 335 = .ok (.iload 9, 2) := dk_at k_dL_isSo_299 (i := 19) rfl
theorem dL_isSo_337 : decode cL_isSo 337 = .ok (.if_icmp .ne 18, 3) := dk_at k_dL_isSo_299 (i := 20) rfl
theorem dL_isSo_340 : decode cL_isSo 340 = .ok (.aload_n 0, 1) := dk_at k_dL_isSo_299 (i := 21) rfl
theorem dL_isSo_341 : decode cL_isSo 341 = .ok (.iload 7, 2) := dk_at k_dL_isSo_299 (i := 22) rfl
theorem dL_isSo_343 : decode cL_isSo 343 = .ok (.iconst 1, 1) := dk_at k_dL_isSo_299 (i := 23) rfl
theorem dL_isSo_344 : decode cL_isSo 344 = .ok (.invokevirtual 118, 3) := dk_at k_dL_isSo_299 (i := 24) rfl
theorem dL_isSo_347 : decode cL_isSo 347 = .ok (.iload 9, 2) := dk_at k_dL_isSo_299 (i := 25) rfl
theorem dL_isSo_349 : decode cL_isSo 349 = .ok (.invokestatic 113, 3) := dk_at k_dL_isSo_299 (i := 26) rfl
theorem dL_isSo_352 : decode cL_isSo 352 = .ok (.if_icmp .eq 5, 3) := dk_at k_dL_isSo_299 (i := 27) rfl
theorem dL_isSo_355 : decode cL_isSo 355 = .ok (.iconst 0, 1) := dk_at k_dL_isSo_299 (i := 28) rfl
theorem dL_isSo_356 : decode cL_isSo 356 = .ok (.ireturn, 1) := dk_at k_dL_isSo_299 (i := 29) rfl
theorem dL_isSo_357 : decode cL_isSo 357 = .ok (.iinc 7 1, 3) := dk_at k_dL_isSo_299 (i := 30) rfl
theorem dL_isSo_360 : decode cL_isSo 360 = .ok (.goto (-118), 3) := dk_at k_dL_isSo_299 (i := 31) rfl
theorem k_dL_isSo_363 : dk cL_isSo [(363, .aload_n 0, 1), (364, .iconst 2, 1), (365, .invokevirtual 30, 3), (368, .iload_n 3, 1), (369, .if_icmp .ne 67, 3), (372, .aload_n 0, 1), (373, .iconst 4, 1), (374, .invokevirtual 30, 3), (377, .iload 4, 2), (379, .if_icmp .ne 57, 3), (382, .aload_n 0, 1), (383, .bipush 6, 2), (385, .invokevirtual 30, 3), (388, .iload 6, 2), (390, .if_icmp .ne 46, 3), (393, .aload_n 0, 1), (394, .bipush 7, 2), (396, .invokevirtual 30, 3), (399, .ifCond .lt 14, 3), (402, .aload_n 0, 1), (403, .bipush 7, 2), (405, .invokevirtual 30, 3), (408, .iload 5, 2), (410, .if_icmp .ne 26, 3), (413, .iload_n 2, 1), (414, .ifCond .eq 18, 3), (417, .aload_n 0, 1), (418, .bipush 7, 2), (420, .invokevirtual 30, 3), (423, .iconst (-1), 1), (424, .if_icmp .ne 12, 3), (427, .iload 4, 2)] = true := by decide +kernel
theorem dL_isSo_363 : decode cL_isSo 363 = .ok (.aload_n 0, 1) := dk_at k_dL_isSo_363 (i := 0) rfl
theorem dL_isSo_364 : decode cL_isSo 364 = .ok (.iconst 2, 1) := dk_at k_dL_isSo_363 (i := 1) rfl
theorem dL_isSo_365 : decode cL_isSo 365 = .ok (.invokevirtual 30, 3) := dk_at k_dL_isSo_363 (i := 2) rfl
theorem dL_isSo_368 : decode cL_isSo 368 = .ok (.iload_n 3, 1) := dk_at k_dL_isSo_363 (i := 3) rfl
theorem dL_isSo_369 : decode cL_isSo 369 = .ok (.if_icmp .ne 67, 3) := dk_at k_dL_isSo_363 (i := 4) rfl
theorem dL_isSo_372 : decode cL_isSo 372 = .ok (.aload_n 0, 1) := dk_at k_dL_isSo_363 (i := 5) rfl
theorem dL_isSo_373 : decode cL_isSo 373 = .ok (.iconst 4, 1) := dk_at k_dL_isSo_363 (i := 6) rfl
theorem dL_isSo_374 : decode cL_isSo 374 = .ok (.invokevirtual 30, 3) := dk_at k_dL_isSo_363 (i := 7) rfl
theorem dL_isSo_377 : decode cL_isSo 377 = .ok (.iload 4, 2) := dk_at k_dL_isSo_363 (i := 8) rfl
theorem dL_isSo_379 : decode cL_isSo 379 = .ok (.if_icmp .ne 57, 3) := dk_at k_dL_isSo_363 (i := 9) rfl
theorem dL_isSo_382 : decode cL_isSo 382 = .ok (.aload_n 0, 1) := dk_at k_dL_isSo_363 (i := 10) rfl
theorem dL_isSo_383 : decode cL_isSo 383 = .ok (.bipush 6, 2) := dk_at k_dL_isSo_363 (i := 11) rfl
theorem dL_isSo_385 : decode cL_isSo 385 = .ok (.invokevirtual 30, 3) := dk_at k_dL_isSo_363 (i := 12) rfl
theorem dL_isSo_388 : decode cL_isSo 388 = .ok (.iload 6, 2) := dk_at k_dL_isSo_363 (i := 13) rfl
theorem dL_isSo_390 : decode cL_isSo 390 = .ok (.if_icmp .ne 46, 3) := dk_at k_dL_isSo_363 (i := 14) rfl
theorem dL_isSo_393 : decode cL_isSo 393 = .ok (.aload_n 0, 1) := dk_at k_dL_isSo_363 (i := 15) rfl
theorem dL_isSo_394 : decode cL_isSo 394 = .ok (.bipush 7, 2) := dk_at k_dL_isSo_363 (i := 16) rfl
theorem dL_isSo_396 : decode cL_isSo 396 = .ok (.invokevirtual 30, 3) := dk_at k_dL_isSo_363 (i := 17) rfl
theorem dL_isSo_399 : decode cL_isSo 399 = .ok (.ifCond .lt 14, 3) := dk_at k_dL_isSo_363 (i := 18) rfl
theorem dL_isSo_402 : decode cL_isSo 402 = .ok (.aload_n 0, 1) := dk_at k_dL_isSo_363 (i := 19) rfl
theorem dL_isSo_403 : decode cL_isSo 403 = .ok (.bipush 7, 2) := dk_at k_dL_isSo_363 (i := 20) rfl
theorem dL_isSo_405 : decode cL_isSo 405 = .ok (.invokevirtual 30, 3) := dk_at k_dL_isSo_363 (i := 21) rfl
theorem dL_isSo_408 : decode cL_isSo 408 = .ok (.iload 5, 2) := dk_at k_dL_isSo_363 (i := 22) rfl
theorem dL_isSo_410 : decode cL_isSo 410 = .ok (.if_icmp .ne 26, 3) := dk_at k_dL_isSo_363 (i := 23) rfl
theorem dL_isSo_413 : decode cL_isSo 413 = .ok (.iload_n 2, 1) := dk_at k_dL_isSo_363 (i := 24) rfl
theorem dL_isSo_414 : decode cL_isSo 414 = .ok (.ifCond .eq 18, 3) := dk_at k_dL_isSo_363 (i := 25) rfl
theorem dL_isSo_417 : decode cL_isSo 417 = .ok (.aload_n 0, 1) := dk_at k_dL_isSo_363 (i := 26) rfl
theorem dL_isSo_418 : decode cL_isSo 418 = .ok (.bipush 7, 2) := dk_at k_dL_isSo_363 (i := 27) rfl
theorem dL_isSo_420 : decode cL_isSo 420 = .ok (.invokevirtual 30, 3) := dk_at k_dL_isSo_363 (i := 28) rfl
theorem dL_isSo_423 : decode cL_isSo 423 = .ok (.iconst (-1), 1) := dk_at k_dL_isSo_363 (i := 29) rfl
theorem dL_isSo_424 : decode cL_isSo 424 = .ok (.if_icmp .ne 12, 3) := dk_at k_dL_isSo_363 (i := 30) rfl
theorem dL_isSo_427 : decode cL_isSo 427 = .ok (.iload 4, 2) := dk_at k_dL_isSo_363 (i := 31) rfl
theorem k_dL_isSo_429 : dk cL_isSo [(429, .ifCond .ne 7, 3), (432, .iconst 1, 1), (433, .goto 4, 3), (436, .iconst 0, 1), (437, .ireturn, 1)] = true := by decide +kernel
theorem dL_isSo_429 : decode cL_isSo 429 = .ok (.ifCond .ne 7, 3) := dk_at k_dL_isSo_429 (i := 0) rfl
theorem dL_isSo_432 : decode cL_isSo 432 = .ok (.iconst 1, 1) := dk_at k_dL_isSo_429 (i := 1) rfl
theorem dL_isSo_433 : decode cL_isSo 433 = .ok (.goto 4, 3) := dk_at k_dL_isSo_429 (i := 2) rfl
theorem dL_isSo_436 : decode cL_isSo 436 = .ok (.iconst 0, 1) := dk_at k_dL_isSo_429 (i := 3) rfl
theorem dL_isSo_437 : decode cL_isSo 437 = .ok (.ireturn, 1) := dk_at k_dL_isSo_429 (i := 4) rfl
theorem k_dL_isReason_0 : dk cL_isReason [(0, .aload_n 0, 1), (1, .iconst (-1), 1), (2, .invokevirtual 124, 3), (5, .istore_n 1, 1), (6, .aload_n 0, 1), (7, .iconst 3, 1), (8, .invokevirtual 30, 3), (11, .ifCond .ne 13, 3), (14, .iload_n 1, 1), (15, .ifCond .ne 7, 3), (18, .iconst 1, 1), (19, .goto 4, 3), (22, .iconst 0, 1), (23, .ireturn, 1), (24, .iload_n 1, 1), (25, .ifCond .eq 12, 3), (28, .aload_n 0, 1), (29, .iload_n 1, 1), (30, .iconst 0, 1), (31, .invokevirtual 127, 3), (34, .ifCond .eq 5, 3), (37, .iconst 0, 1), (38, .ireturn, 1), (39, .iconst 0, 1), (40, .istore_n 2, 1), (41, .iload_n 2, 1), (42, .aload_n 0, 1), (43, .iconst 1, 1), (44, .invokevirtual 30, 3), (47, .if_icmp .ge 83, 3), (50, .iload_n 1, 1), (51, .iload_n 2, 1)] = true := by decide +kernel
theorem dL_isReason_0 : decode cL_isReason 0 = .ok (.aload_n 0, 1) := dk_at k_dL_isReason_0 (i := 0) rfl
theorem dL_isReason_1 : decode cL_isReason 1 = .ok (.iconst (-1), 1) := dk_at k_dL_isReason_0 (i := 1) rfl
theorem dL_isReason_2 : decode cL_isReason 2 = .ok (.invokevirtual 124, 3) := dk_at k_dL_isReason_0 (i := 2) rfl
theorem dL_isReason_5 : decode cL_isReason 5 = .ok (.istore_n 1, 1) := dk_at k_dL_isReason_0 (i := 3) rfl
theorem dL_isReason_6 : decode cL_isReason 6 = .ok (.aload_n 0, 1) := dk_at k_dL_isReason_0 (i := 4) rfl
theorem dL_isReason_7 : decode cL_isReason 7 = .ok (.iconst 3, 1) := dk_at k_dL_isReason_0 (i := 5) rfl
theorem dL_isReason_8 : decode cL_isReason 8 = .ok (.invokevirtual 30, 3) := dk_at k_dL_isReason_0 (i := 6) rfl
theorem dL_isReason_11 : decode cL_isReason 11 = .ok (.ifCond .ne 13, 3) := dk_at k_dL_isReason_0 (i := 7) rfl
theorem dL_isReason_14 : decode cL_isReason 14 = .ok (.iload_n 1, 1) := dk_at k_dL_isReason_0 (i := 8) rfl
theorem dL_isReason_15 : decode cL_isReason 15 = .ok (.ifCond .ne 7, 3) := dk_at k_dL_isReason_0 (i := 9) rfl
theorem dL_isReason_18 : decode cL_isReason 18 = .ok (.iconst 1, 1) := dk_at k_dL_isReason_0 (i := 10) rfl
theorem dL_isReason_19 : decode cL_isReason 19 = .ok (.goto 4, 3) := dk_at k_dL_isReason_0 (i := 11) rfl
theorem dL_isReason_22 : decode cL_isReason 22 = .ok (.iconst 0, 1) := dk_at k_dL_isReason_0 (i := 12) rfl
theorem dL_isReason_23 : decode cL_isReason 23 = .ok (.ireturn, 1) := dk_at k_dL_isReason_0 (i := 13) rfl
theorem dL_isReason_24 : decode cL_isReason 24 = .ok (.iload_n 1, 1) := dk_at k_dL_isReason_0 (i := 14) rfl
theorem dL_isReason_25 : decode cL_isReason 25 = .ok (.ifCond .eq 12, 3) := dk_at k_dL_isReason_0 (i := 15) rfl
theorem dL_isReason_28 : decode cL_isReason 28 = .ok (.aload_n 0, 1) := dk_at k_dL_isReason_0 (i := 16) rfl
theorem dL_isReason_29 : decode cL_isReason 29 = .ok (.iload_n 1, 1) := dk_at k_dL_isReason_0 (i := 17) rfl
theorem dL_isReason_30 : decode cL_isReason 30 = .ok (.iconst 0, 1) := dk_at k_dL_isReason_0 (i := 18) rfl
theorem dL_isReason_31 : decode cL_isReason 31 = .ok (.invokevirtual 127, 3) := dk_at k_dL_isReason_0 (i := 19) rfl
theorem dL_isReason_34 : decode cL_isReason 34 = .ok (.ifCond .eq 5, 3) := dk_at k_dL_isReason_0 (i := 20) rfl
theorem dL_isReason_37 : decode cL_isReason 37 = .ok (.iconst 0, 1) := dk_at k_dL_isReason_0 (i := 21) rfl
theorem dL_isReason_38 : decode cL_isReason 38 = .ok (.ireturn, 1) := dk_at k_dL_isReason_0 (i := 22) rfl
theorem dL_isReason_39 : decode cL_isReason 39 = .ok (.iconst 0, 1) := dk_at k_dL_isReason_0 (i := 23) rfl
theorem dL_isReason_40 : decode cL_isReason 40 = .ok (.istore_n 2, 1) := dk_at k_dL_isReason_0 (i := 24) rfl
theorem dL_isReason_41 : decode cL_isReason 41 = .ok (.iload_n 2, 1) := dk_at k_dL_isReason_0 (i := 25) rfl
theorem dL_isReason_42 : decode cL_isReason 42 = .ok (.aload_n 0, 1) := dk_at k_dL_isReason_0 (i := 26) rfl
theorem dL_isReason_43 : decode cL_isReason 43 = .ok (.iconst 1, 1) := dk_at k_dL_isReason_0 (i := 27) rfl
theorem dL_isReason_44 : decode cL_isReason 44 = .ok (.invokevirtual 30, 3) := dk_at k_dL_isReason_0 (i := 28) rfl
theorem dL_isReason_47 : decode cL_isReason 47 = .ok (.if_icmp .ge 83, 3) := dk_at k_dL_isReason_0 (i := 29) rfl
theorem dL_isReason_50 : decode cL_isReason 50 = .ok (.iload_n 1, 1) := dk_at k_dL_isReason_0 (i := 30) rfl
theorem dL_isReason_51 : decode cL_isReason 51 = .ok (.iload_n 2, 1) := dk_at k_dL_isReason_0 (i := 31) rfl
theorem k_dL_isReason_52 : dk cL_isReason [(52, .ishr, 1), (53, .iconst 1, 1), (54, .iand, 1), (55, .iconst 1, 1), (56, .if_icmp .ne 7, 3), (59, .iconst 1, 1), (60, .goto 4, 3), (63, .iconst 0, 1), (64, .istore_n 3, 1), (65, .aload_n 0, 1), (66, .iload_n 2, 1), (67, .bipush 6, 2), (69, .invokevirtual 110, 3), (72, .iload_n 3, 1), (73, .ifCond .eq 7, 3), (76, .iconst 1, 1), (77, .goto 4, 3), (80, .iconst 0, 1), (81, .if_icmp .ne 41, 3), (84, .iload_n 3, 1), (85, .ifCond .eq 39, 3), (88, .aload_n 0, 1), (89, .iload_n 2, 1), (90, .iconst 5, 1), (91, .invokevirtual 110, 3), (94, .ifCond .eq 28, 3), (97, .aload_n 0, 1), (98, .iload_n 2, 1), (99, .iconst 0, 1), (100, .invokevirtual 110, 3), (103, .iconst 5, 1), (104, .if_icmp .eq 18, 3)] = true := by decide +kernel
theorem dL_isReason_52 : decode cL_isReason 52 = .ok (.ishr, 1) := dk_at k_dL_isReason_52 (i := 0) rfl
theorem dL_isReason_53 : decode cL_isReason 53 = .ok (.iconst 1, 1) := dk_at k_dL_isReason_52 (i := 1) rfl
theorem dL_isReason_54 : decode cL_isReason 54 = .ok (.iand, 1) := dk_at k_dL_isReason_52 (i := 2) rfl
theorem dL_isReason_55 : decode cL_isReason 55 = .ok (.iconst 1, 1) := dk_at k_dL_isReason_52 (i := 3) rfl
theorem dL_isReason_56 : decode cL_isReason 56 = .ok (.if_icmp .ne 7, 3) := dk_at k_dL_isReason_52 (i := 4) rfl
theorem dL_isReason_59 : decode cL_isReason 59 = .ok (.iconst 1, 1) := dk_at k_dL_isReason_52 (i := 5) rfl
theorem dL_isReason_60 : decode cL_isReason 60 = .ok (.goto 4, 3) := dk_at k_dL_isReason_52 (i := 6) rfl
theorem dL_isReason_63 : decode cL_isReason 63 = .ok (.iconst 0, 1) := dk_at k_dL_isReason_52 (i := 7) rfl
theorem dL_isReason_64 : decode cL_isReason 64 = .ok (.istore_n 3, 1) := dk_at k_dL_isReason_52 (i := 8) rfl
theorem dL_isReason_65 : decode cL_isReason 65 = .ok (.aload_n 0, 1) := dk_at k_dL_isReason_52 (i := 9) rfl
theorem dL_isReason_66 : decode cL_isReason 66 = .ok (.iload_n 2, 1) := dk_at k_dL_isReason_52 (i := 10) rfl
theorem dL_isReason_67 : decode cL_isReason 67 = .ok (.bipush 6, 2) := dk_at k_dL_isReason_52 (i := 11) rfl
theorem dL_isReason_69 : decode cL_isReason 69 = .ok (.invokevirtual 110, 3) := dk_at k_dL_isReason_52 (i := 12) rfl
theorem dL_isReason_72 : decode cL_isReason 72 = .ok (.iload_n 3, 1) := dk_at k_dL_isReason_52 (i := 13) rfl
theorem dL_isReason_73 : decode cL_isReason 73 = .ok (.ifCond .eq 7, 3) := dk_at k_dL_isReason_52 (i := 14) rfl
theorem dL_isReason_76 : decode cL_isReason 76 = .ok (.iconst 1, 1) := dk_at k_dL_isReason_52 (i := 15) rfl
theorem dL_isReason_77 : decode cL_isReason 77 = .ok (.goto 4, 3) := dk_at k_dL_isReason_52 (i := 16) rfl
theorem dL_isReason_80 : decode cL_isReason 80 = .ok (.iconst 0, 1) := dk_at k_dL_isReason_52 (i := 17) rfl
theorem dL_isReason_81 : decode cL_isReason 81 = .ok (.if_icmp .ne 41, 3) := dk_at k_dL_isReason_52 (i := 18) rfl
theorem dL_isReason_84 : decode cL_isReason 84 = .ok (.iload_n 3, 1) := dk_at k_dL_isReason_52 (i := 19) rfl
theorem dL_isReason_85 : decode cL_isReason 85 = .ok (.ifCond .eq 39, 3) := dk_at k_dL_isReason_52 (i := 20) rfl
theorem dL_isReason_88 : decode cL_isReason 88 = .ok (.aload_n 0, 1) := dk_at k_dL_isReason_52 (i := 21) rfl
theorem dL_isReason_89 : decode cL_isReason 89 = .ok (.iload_n 2, 1) := dk_at k_dL_isReason_52 (i := 22) rfl
theorem dL_isReason_90 : decode cL_isReason 90 = .ok (.iconst 5, 1) := dk_at k_dL_isReason_52 (i := 23) rfl
theorem dL_isReason_91 : decode cL_isReason 91 = .ok (.invokevirtual 110, 3) := dk_at k_dL_isReason_52 (i := 24) rfl
theorem dL_isReason_94 : decode cL_isReason 94 = .ok (.ifCond .eq 28, 3) := dk_at k_dL_isReason_52 (i := 25) rfl
theorem dL_isReason_97 : decode cL_isReason 97 = .ok (.aload_n 0, 1) := dk_at k_dL_isReason_52 (i := 26) rfl
theorem dL_isReason_98 : decode cL_isReason 98 = .ok (.iload_n 2, 1) := dk_at k_dL_isReason_52 (i := 27) rfl
theorem dL_isReason_99 : decode cL_isReason 99 = .ok (.iconst 0, 1) := dk_at k_dL_isReason_52 (i := 28) rfl
theorem dL_isReason_100 : decode cL_isReason 100 = .ok (.invokevirtual 110, 3) := dk_at k_dL_isReason_52 (i := 29) rfl
theorem dL_isReason_103 : decode cL_isReason 103 = .ok (.iconst 5, 1) := dk_at k_dL_isReason_52 (i := 30) rfl
theorem dL_isReason_104 : decode cL_isReason 104 = .ok (.if_icmp .eq 18, 3) := dk_at k_dL_isReason_52 (i := 31) rfl
theorem k_dL_isReason_107 : dk cL_isReason [(107, .aload_n 0, 1), (108, .iload_n 1, 1), (109, .iconst 1, 1), (110, .iload_n 2, 1), (111, .ishl, 1), (112, .iconst (-1), 1), (113, .ixor, 1), (114, .iand, 1), (115, .iconst 0, 1), (116, .invokevirtual 127, 3), (119, .ifCond .ne 5, 3), (122, .iconst 0, 1), (123, .ireturn, 1), (124, .iinc 2 1, 3), (127, .goto (-86), 3), (130, .iconst 1, 1), (131, .ireturn, 1)] = true := by decide +kernel
theorem dL_isReason_107 : decode cL_isReason 107 = .ok (.aload_n 0, 1) := dk_at k_dL_isReason_107 (i := 0) rfl
theorem dL_isReason_108 : decode cL_isReason 108 = .ok (.iload_n 1, 1) := dk_at k_dL_isReason_107 (i := 1) rfl
theorem dL_isReason_109 : decode cL_isReason 109 = .ok (.iconst 1, 1) := dk_at k_dL_isReason_107 (i := 2) rfl
theorem dL_isReason_110 : decode cL_isReason 110 = .ok (.iload_n 2, 1) := dk_at k_dL_isReason_107 (i := 3) rfl
theorem dL_isReason_111 : decode cL_isReason 111 = .ok (.ishl, 1) := dk_at k_dL_isReason_107 (i := 4) rfl
theorem dL_isReason_112 : decode cL_isReason 112 = .ok (.iconst (-1), 1) := dk_at k_dL_isReason_107 (i := 5) rfl
theorem dL_isReason_113 : decode cL_isReason 113 = .ok (.ixor, 1) := dk_at k_dL_isReason_107 (i := 6) rfl
theorem dL_isReason_114 : decode cL_isReason 114 = .ok (.iand, 1) := dk_at k_dL_isReason_107 (i := 7) rfl
theorem dL_isReason_115 : decode cL_isReason 115 = .ok (.iconst 0, 1) := dk_at k_dL_isReason_107 (i := 8) rfl
theorem dL_isReason_116 : decode cL_isReason 116 = .ok (.invokevirtual 127, 3) := dk_at k_dL_isReason_107 (i := 9) rfl
theorem dL_isReason_119 : decode cL_isReason 119 = .ok (.ifCond .ne 5, 3) := dk_at k_dL_isReason_107 (i := 10) rfl
theorem dL_isReason_122 : decode cL_isReason 122 = .ok (.iconst 0, 1) := dk_at k_dL_isReason_107 (i := 11) rfl
theorem dL_isReason_123 : decode cL_isReason 123 = .ok (.ireturn, 1) := dk_at k_dL_isReason_107 (i := 12) rfl
theorem dL_isReason_124 : decode cL_isReason 124 = .ok (.iinc 2 1, 3) := dk_at k_dL_isReason_107 (i := 13) rfl
theorem dL_isReason_127 : decode cL_isReason 127 = .ok (.goto (-86), 3) := dk_at k_dL_isReason_107 (i := 14) rfl
theorem dL_isReason_130 : decode cL_isReason 130 = .ok (.iconst 1, 1) := dk_at k_dL_isReason_107 (i := 15) rfl
theorem dL_isReason_131 : decode cL_isReason 131 = .ok (.ireturn, 1) := dk_at k_dL_isReason_107 (i := 16) rfl
/-! THE LAW'S OWN WORDS, and all of them -/
def wB_0 : List Cond := [.code yL_below cL_below 2 (some .int), .constant RL 7 (2147483647), .code yL_cell cL_cell 2 (some .int), .constant RL 8 (790386105), .classLink RL 54 "java/lang/IllegalStateException", .methodLink RL 30 yX5_house, .methodLink RL 18 yL_below, .static yL_below, .initialized RL, .methodLink RL 33 yX5_ofField, .methodLink RL 36 yX5_oneOf, .instanceMethod yX5_oneOf, .selects RX5 yX5_oneOf yX5_oneOf, .methodLink RL 40 yX5_bound, .instanceMethod yX5_bound, .selects RX5 yX5_bound yX5_bound, .methodLink RL 44 yX5_more, .instanceMethod yX5_more, .selects RX5 yX5_more yX5_more, .methodLink RL 48 yX5_unlike, .instanceMethod yX5_unlike, .selects RX5 yX5_unlike yX5_unlike, .methodLink RL 51 yX5_preset, .instanceMethod yX5_preset, .selects RX5 yX5_preset yX5_preset, .codeWith yL_tell cL_tell 7 (some .boolean) [(74, 294, 295, 54)], .classLink RL 9 RX5, .instantiable RX5 4, .methodLink RL 11 yX5_init, .instanceMethod yX5_init, .methodLink RL 12 yL_cell, .static yL_cell, .methodLink RL 22 yX5_field, .instanceMethod yX5_field, .selects RX5 yX5_field yX5_field, .methodLink RL 26 yL_tell, .static yL_tell, .code yL_house cL_house 5 (some (.object "Meetjoin")), .methodLink RL 56 Lib.Math.max.name, .static Lib.Math.max.name, .initialized "java/lang/Math", .code Lib.Math.max.name Lib.Math.max.code 2 (some .int), .methodLink RL 61 yX5_approve, .instanceMethod yX5_approve, .selects RX5 yX5_approve yX5_approve, .methodLink RL 65 yX5_withdraw, .instanceMethod yX5_withdraw, .selects RX5 yX5_withdraw yX5_withdraw, .methodLink RL 68 yX5_weight, .instanceMethod yX5_weight, .selects RX5 yX5_weight yX5_weight, .methodLink RL 71 yX5_commit, .instanceMethod yX5_commit, .selects RX5 yX5_commit yX5_commit, .methodLink RL 75 yX5_wave, .instanceMethod yX5_wave, .selects RX5 yX5_wave yX5_wave, .methodLink RL 78 yX5_patch, .instanceMethod yX5_patch, .selects RX5 yX5_patch yX5_patch]
def wB_1 : List Cond := [.methodLink RL 81 yX5_absorb, .instanceMethod yX5_absorb, .selects RX5 yX5_absorb yX5_absorb, .codeWith yL_isDone cL_isDone 6 (some .boolean) [(39, 250, 260, 54), (251, 259, 260, 54)], .methodLink RL 110 yX5_ofLine, .methodLink RL 113 yJ6_bitCount_0f7a4, .methodLink RL 118 yX5_ofMachine, .methodLink RL 121 yX5_has, .methodLink RL 96 yX5_ofCommit, .code yL_isSo cL_isSo 11 (some .boolean), .methodLink RL 124 yX5_reason, .methodLink RL 127 yX5_met, .instanceMethod yX5_met, .selects RX5 yX5_met yX5_met, .code yL_isReason cL_isReason 4 (some .boolean), .classLink RL 87 "[[I", .methodLink RL 84 yL_house, .static yL_house, .methodLink RL 89 yX5_digest, .instanceMethod yX5_digest, .selects RX5 yX5_digest yX5_digest, .methodLink RL 93 yL_isDone, .static yL_isDone, .methodLink RL 99 yL_isSo, .static yL_isSo, .methodLink RL 103 yL_isReason, .static yL_isReason, .methodLink RL 106 yX5_isSound]
def wLO : List Cond := wB_0 ++ (wB_1)
def wLAW : List Cond := wLO ++ wALL
theorem iB_0 : ∀ w ∈ wB_0, w ∈ wLAW := fun _ h => List.mem_append_left _ (List.mem_append_left _ h)
theorem iB_1 : ∀ w ∈ wB_1, w ∈ wLAW := fun _ h => List.mem_append_left _ (List.mem_append_right _ h)
theorem iB_A : ∀ w ∈ wALL, w ∈ wLAW := fun _ h => List.mem_append_right _ h
theorem B_0 : (Cond.code yL_below cL_below 2 (some .int) : Cond) ∈ wLAW := iB_0 _ (List.mem_of_getElem? (i := 0) rfl)
theorem B_1 : (Cond.constant RL 7 (2147483647) : Cond) ∈ wLAW := iB_0 _ (List.mem_of_getElem? (i := 1) rfl)
theorem B_2 : (Cond.code yL_cell cL_cell 2 (some .int) : Cond) ∈ wLAW := iB_0 _ (List.mem_of_getElem? (i := 2) rfl)
theorem B_3 : (Cond.constant RL 8 (790386105) : Cond) ∈ wLAW := iB_0 _ (List.mem_of_getElem? (i := 3) rfl)
theorem B_4 : (Cond.classLink RL 54 "java/lang/IllegalStateException" : Cond) ∈ wLAW := iB_0 _ (List.mem_of_getElem? (i := 4) rfl)
theorem B_5 : (Cond.methodLink RL 30 yX5_house : Cond) ∈ wLAW := iB_0 _ (List.mem_of_getElem? (i := 5) rfl)
theorem B_6 : (Cond.methodLink RL 18 yL_below : Cond) ∈ wLAW := iB_0 _ (List.mem_of_getElem? (i := 6) rfl)
theorem B_7 : (Cond.static yL_below : Cond) ∈ wLAW := iB_0 _ (List.mem_of_getElem? (i := 7) rfl)
theorem B_8 : (Cond.initialized RL : Cond) ∈ wLAW := iB_0 _ (List.mem_of_getElem? (i := 8) rfl)
theorem B_9 : (Cond.methodLink RL 33 yX5_ofField : Cond) ∈ wLAW := iB_0 _ (List.mem_of_getElem? (i := 9) rfl)
theorem B_10 : (Cond.methodLink RL 36 yX5_oneOf : Cond) ∈ wLAW := iB_0 _ (List.mem_of_getElem? (i := 10) rfl)
theorem B_11 : (Cond.instanceMethod yX5_oneOf : Cond) ∈ wLAW := iB_0 _ (List.mem_of_getElem? (i := 11) rfl)
theorem B_12 : (Cond.selects RX5 yX5_oneOf yX5_oneOf : Cond) ∈ wLAW := iB_0 _ (List.mem_of_getElem? (i := 12) rfl)
theorem B_13 : (Cond.methodLink RL 40 yX5_bound : Cond) ∈ wLAW := iB_0 _ (List.mem_of_getElem? (i := 13) rfl)
theorem B_14 : (Cond.instanceMethod yX5_bound : Cond) ∈ wLAW := iB_0 _ (List.mem_of_getElem? (i := 14) rfl)
theorem B_15 : (Cond.selects RX5 yX5_bound yX5_bound : Cond) ∈ wLAW := iB_0 _ (List.mem_of_getElem? (i := 15) rfl)
theorem B_16 : (Cond.methodLink RL 44 yX5_more : Cond) ∈ wLAW := iB_0 _ (List.mem_of_getElem? (i := 16) rfl)
theorem B_17 : (Cond.instanceMethod yX5_more : Cond) ∈ wLAW := iB_0 _ (List.mem_of_getElem? (i := 17) rfl)
theorem B_18 : (Cond.selects RX5 yX5_more yX5_more : Cond) ∈ wLAW := iB_0 _ (List.mem_of_getElem? (i := 18) rfl)
theorem B_19 : (Cond.methodLink RL 48 yX5_unlike : Cond) ∈ wLAW := iB_0 _ (List.mem_of_getElem? (i := 19) rfl)
theorem B_20 : (Cond.instanceMethod yX5_unlike : Cond) ∈ wLAW := iB_0 _ (List.mem_of_getElem? (i := 20) rfl)
theorem B_21 : (Cond.selects RX5 yX5_unlike yX5_unlike : Cond) ∈ wLAW := iB_0 _ (List.mem_of_getElem? (i := 21) rfl)
theorem B_22 : (Cond.methodLink RL 51 yX5_preset : Cond) ∈ wLAW := iB_0 _ (List.mem_of_getElem? (i := 22) rfl)
theorem B_23 : (Cond.instanceMethod yX5_preset : Cond) ∈ wLAW := iB_0 _ (List.mem_of_getElem? (i := 23) rfl)
theorem B_24 : (Cond.selects RX5 yX5_preset yX5_preset : Cond) ∈ wLAW := iB_0 _ (List.mem_of_getElem? (i := 24) rfl)
theorem B_25 : (Cond.codeWith yL_tell cL_tell 7 (some .boolean) [(74, 294, 295, 54)] : Cond) ∈ wLAW := iB_0 _ (List.mem_of_getElem? (i := 25) rfl)
theorem B_26 : (Cond.classLink RL 9 RX5 : Cond) ∈ wLAW := iB_0 _ (List.mem_of_getElem? (i := 26) rfl)
theorem B_27 : (Cond.instantiable RX5 4 : Cond) ∈ wLAW := iB_0 _ (List.mem_of_getElem? (i := 27) rfl)
theorem B_28 : (Cond.methodLink RL 11 yX5_init : Cond) ∈ wLAW := iB_0 _ (List.mem_of_getElem? (i := 28) rfl)
theorem B_29 : (Cond.instanceMethod yX5_init : Cond) ∈ wLAW := iB_0 _ (List.mem_of_getElem? (i := 29) rfl)
theorem B_30 : (Cond.methodLink RL 12 yL_cell : Cond) ∈ wLAW := iB_0 _ (List.mem_of_getElem? (i := 30) rfl)
theorem B_31 : (Cond.static yL_cell : Cond) ∈ wLAW := iB_0 _ (List.mem_of_getElem? (i := 31) rfl)
theorem B_32 : (Cond.methodLink RL 22 yX5_field : Cond) ∈ wLAW := iB_0 _ (List.mem_of_getElem? (i := 32) rfl)
theorem B_33 : (Cond.instanceMethod yX5_field : Cond) ∈ wLAW := iB_0 _ (List.mem_of_getElem? (i := 33) rfl)
theorem B_34 : (Cond.selects RX5 yX5_field yX5_field : Cond) ∈ wLAW := iB_0 _ (List.mem_of_getElem? (i := 34) rfl)
theorem B_35 : (Cond.methodLink RL 26 yL_tell : Cond) ∈ wLAW := iB_0 _ (List.mem_of_getElem? (i := 35) rfl)
theorem B_36 : (Cond.static yL_tell : Cond) ∈ wLAW := iB_0 _ (List.mem_of_getElem? (i := 36) rfl)
theorem B_37 : (Cond.code yL_house cL_house 5 (some (.object "Meetjoin")) : Cond) ∈ wLAW := iB_0 _ (List.mem_of_getElem? (i := 37) rfl)
theorem B_38 : (Cond.methodLink RL 56 Lib.Math.max.name : Cond) ∈ wLAW := iB_0 _ (List.mem_of_getElem? (i := 38) rfl)
theorem B_39 : (Cond.static Lib.Math.max.name : Cond) ∈ wLAW := iB_0 _ (List.mem_of_getElem? (i := 39) rfl)
theorem B_40 : (Cond.initialized "java/lang/Math" : Cond) ∈ wLAW := iB_0 _ (List.mem_of_getElem? (i := 40) rfl)
theorem B_41 : (Cond.code Lib.Math.max.name Lib.Math.max.code 2 (some .int) : Cond) ∈ wLAW := iB_0 _ (List.mem_of_getElem? (i := 41) rfl)
theorem B_42 : (Cond.methodLink RL 61 yX5_approve : Cond) ∈ wLAW := iB_0 _ (List.mem_of_getElem? (i := 42) rfl)
theorem B_43 : (Cond.instanceMethod yX5_approve : Cond) ∈ wLAW := iB_0 _ (List.mem_of_getElem? (i := 43) rfl)
theorem B_44 : (Cond.selects RX5 yX5_approve yX5_approve : Cond) ∈ wLAW := iB_0 _ (List.mem_of_getElem? (i := 44) rfl)
theorem B_45 : (Cond.methodLink RL 65 yX5_withdraw : Cond) ∈ wLAW := iB_0 _ (List.mem_of_getElem? (i := 45) rfl)
theorem B_46 : (Cond.instanceMethod yX5_withdraw : Cond) ∈ wLAW := iB_0 _ (List.mem_of_getElem? (i := 46) rfl)
theorem B_47 : (Cond.selects RX5 yX5_withdraw yX5_withdraw : Cond) ∈ wLAW := iB_0 _ (List.mem_of_getElem? (i := 47) rfl)
theorem B_48 : (Cond.methodLink RL 68 yX5_weight : Cond) ∈ wLAW := iB_0 _ (List.mem_of_getElem? (i := 48) rfl)
theorem B_49 : (Cond.instanceMethod yX5_weight : Cond) ∈ wLAW := iB_0 _ (List.mem_of_getElem? (i := 49) rfl)
theorem B_50 : (Cond.selects RX5 yX5_weight yX5_weight : Cond) ∈ wLAW := iB_0 _ (List.mem_of_getElem? (i := 50) rfl)
theorem B_51 : (Cond.methodLink RL 71 yX5_commit : Cond) ∈ wLAW := iB_0 _ (List.mem_of_getElem? (i := 51) rfl)
theorem B_52 : (Cond.instanceMethod yX5_commit : Cond) ∈ wLAW := iB_0 _ (List.mem_of_getElem? (i := 52) rfl)
theorem B_53 : (Cond.selects RX5 yX5_commit yX5_commit : Cond) ∈ wLAW := iB_0 _ (List.mem_of_getElem? (i := 53) rfl)
theorem B_54 : (Cond.methodLink RL 75 yX5_wave : Cond) ∈ wLAW := iB_0 _ (List.mem_of_getElem? (i := 54) rfl)
theorem B_55 : (Cond.instanceMethod yX5_wave : Cond) ∈ wLAW := iB_0 _ (List.mem_of_getElem? (i := 55) rfl)
theorem B_56 : (Cond.selects RX5 yX5_wave yX5_wave : Cond) ∈ wLAW := iB_0 _ (List.mem_of_getElem? (i := 56) rfl)
theorem B_57 : (Cond.methodLink RL 78 yX5_patch : Cond) ∈ wLAW := iB_0 _ (List.mem_of_getElem? (i := 57) rfl)
theorem B_58 : (Cond.instanceMethod yX5_patch : Cond) ∈ wLAW := iB_0 _ (List.mem_of_getElem? (i := 58) rfl)
theorem B_59 : (Cond.selects RX5 yX5_patch yX5_patch : Cond) ∈ wLAW := iB_0 _ (List.mem_of_getElem? (i := 59) rfl)
theorem B_60 : (Cond.methodLink RL 81 yX5_absorb : Cond) ∈ wLAW := iB_1 _ (List.mem_of_getElem? (i := 0) rfl)
theorem B_61 : (Cond.instanceMethod yX5_absorb : Cond) ∈ wLAW := iB_1 _ (List.mem_of_getElem? (i := 1) rfl)
theorem B_62 : (Cond.selects RX5 yX5_absorb yX5_absorb : Cond) ∈ wLAW := iB_1 _ (List.mem_of_getElem? (i := 2) rfl)
theorem B_63 : (Cond.codeWith yL_isDone cL_isDone 6 (some .boolean) [(39, 250, 260, 54), (251, 259, 260, 54)] : Cond) ∈ wLAW := iB_1 _ (List.mem_of_getElem? (i := 3) rfl)
theorem B_64 : (Cond.methodLink RL 110 yX5_ofLine : Cond) ∈ wLAW := iB_1 _ (List.mem_of_getElem? (i := 4) rfl)
theorem B_65 : (Cond.methodLink RL 113 yJ6_bitCount_0f7a4 : Cond) ∈ wLAW := iB_1 _ (List.mem_of_getElem? (i := 5) rfl)
theorem B_66 : (Cond.methodLink RL 118 yX5_ofMachine : Cond) ∈ wLAW := iB_1 _ (List.mem_of_getElem? (i := 6) rfl)
theorem B_67 : (Cond.methodLink RL 121 yX5_has : Cond) ∈ wLAW := iB_1 _ (List.mem_of_getElem? (i := 7) rfl)
theorem B_68 : (Cond.methodLink RL 96 yX5_ofCommit : Cond) ∈ wLAW := iB_1 _ (List.mem_of_getElem? (i := 8) rfl)
theorem B_69 : (Cond.code yL_isSo cL_isSo 11 (some .boolean) : Cond) ∈ wLAW := iB_1 _ (List.mem_of_getElem? (i := 9) rfl)
theorem B_70 : (Cond.methodLink RL 124 yX5_reason : Cond) ∈ wLAW := iB_1 _ (List.mem_of_getElem? (i := 10) rfl)
theorem B_71 : (Cond.methodLink RL 127 yX5_met : Cond) ∈ wLAW := iB_1 _ (List.mem_of_getElem? (i := 11) rfl)
theorem B_72 : (Cond.instanceMethod yX5_met : Cond) ∈ wLAW := iB_1 _ (List.mem_of_getElem? (i := 12) rfl)
theorem B_73 : (Cond.selects RX5 yX5_met yX5_met : Cond) ∈ wLAW := iB_1 _ (List.mem_of_getElem? (i := 13) rfl)
theorem B_74 : (Cond.code yL_isReason cL_isReason 4 (some .boolean) : Cond) ∈ wLAW := iB_1 _ (List.mem_of_getElem? (i := 14) rfl)
theorem B_75 : (Cond.classLink RL 87 "[[I" : Cond) ∈ wLAW := iB_1 _ (List.mem_of_getElem? (i := 15) rfl)
theorem B_76 : (Cond.methodLink RL 84 yL_house : Cond) ∈ wLAW := iB_1 _ (List.mem_of_getElem? (i := 16) rfl)
theorem B_77 : (Cond.static yL_house : Cond) ∈ wLAW := iB_1 _ (List.mem_of_getElem? (i := 17) rfl)
theorem B_78 : (Cond.methodLink RL 89 yX5_digest : Cond) ∈ wLAW := iB_1 _ (List.mem_of_getElem? (i := 18) rfl)
theorem B_79 : (Cond.instanceMethod yX5_digest : Cond) ∈ wLAW := iB_1 _ (List.mem_of_getElem? (i := 19) rfl)
theorem B_80 : (Cond.selects RX5 yX5_digest yX5_digest : Cond) ∈ wLAW := iB_1 _ (List.mem_of_getElem? (i := 20) rfl)
theorem B_81 : (Cond.methodLink RL 93 yL_isDone : Cond) ∈ wLAW := iB_1 _ (List.mem_of_getElem? (i := 21) rfl)
theorem B_82 : (Cond.static yL_isDone : Cond) ∈ wLAW := iB_1 _ (List.mem_of_getElem? (i := 22) rfl)
theorem B_83 : (Cond.methodLink RL 99 yL_isSo : Cond) ∈ wLAW := iB_1 _ (List.mem_of_getElem? (i := 23) rfl)
theorem B_84 : (Cond.static yL_isSo : Cond) ∈ wLAW := iB_1 _ (List.mem_of_getElem? (i := 24) rfl)
theorem B_85 : (Cond.methodLink RL 103 yL_isReason : Cond) ∈ wLAW := iB_1 _ (List.mem_of_getElem? (i := 25) rfl)
theorem B_86 : (Cond.static yL_isReason : Cond) ∈ wLAW := iB_1 _ (List.mem_of_getElem? (i := 26) rfl)
theorem B_87 : (Cond.methodLink RL 106 yX5_isSound : Cond) ∈ wLAW := iB_1 _ (List.mem_of_getElem? (i := 27) rfl)
theorem gLAW : ∀ w ∈ wLAW, goodWord w = true := fun w h => (List.mem_append.mp h).elim (fun h => List.all_eq_true.mp (by decide +kernel) w h) (gALL w)
theorem gB {a : Cond} {ws : List Cond} (h : ∀ w ∈ ws, w ∈ wLAW) : GoodIn (a :: wLAW) ws := fun w hw => ⟨List.mem_cons_of_mem _ (h w hw), good_of_word (gLAW w (h w hw))⟩
theorem gB_V {a c : Cond} {own C : String} {idx : Nat} {y : MethodName} (h1 : Cond.methodLink own idx y ∈ wLAW) (h2 : Cond.instanceMethod y ∈ wLAW) (h3 : Cond.selects C y y ∈ wLAW) (h4 : Cond.initialized C ∈ wLAW) (hc : c ∈ wLAW) : GoodIn (a :: wLAW) (wsV own idx C y (c :: wALL)) := gB (by
  intro w hw
  rcases List.mem_append.mp hw with h | h
  · rcases List.mem_cons.mp h with rfl | h
    · exact h1
    · rcases List.mem_cons.mp h with rfl | h
      · exact h2
      · rcases List.mem_cons.mp h with rfl | h
        · exact h3
        · rcases List.mem_cons.mp h with rfl | h
          · exact h4
          · simp at h
  · exact (List.mem_cons.mp h).elim (fun e => e ▸ hc) (iB_A w))
theorem gB_S {a c : Cond} {own : String} {idx : Nat} {y : MethodName} (h1 : Cond.methodLink own idx y ∈ wLAW) (h2 : Cond.static y ∈ wLAW) (h4 : Cond.initialized y.cls ∈ wLAW) (hc : c ∈ wLAW) : GoodIn (a :: wLAW) (va_wsS own idx y (c :: wALL)) := gB (by
  intro w hw
  rcases List.mem_append.mp hw with h | h
  · rcases List.mem_cons.mp h with rfl | h
    · exact h1
    · rcases List.mem_cons.mp h with rfl | h
      · exact h2
      · rcases List.mem_cons.mp h with rfl | h
        · exact h4
        · simp at h
  · exact (List.mem_cons.mp h).elim (fun e => e ▸ hc) (iB_A w))
theorem gB_L {a c : Cond} {own : String} {idx : Nat} {y : MethodName} (h1 : Cond.methodLink own idx y ∈ wLAW) (h2 : Cond.static y ∈ wLAW) (h4 : Cond.initialized y.cls ∈ wLAW) (hc : c ∈ wLAW) : GoodIn (a :: wLAW) (va_wsS own idx y (c :: wLAW)) := gB (by
  intro w hw
  rcases List.mem_append.mp hw with h | h
  · rcases List.mem_cons.mp h with rfl | h
    · exact h1
    · rcases List.mem_cons.mp h with rfl | h
      · exact h2
      · rcases List.mem_cons.mp h with rfl | h
        · exact h4
        · simp at h
  · exact (List.mem_cons.mp h).elim (fun e => e ▸ hc) id)

