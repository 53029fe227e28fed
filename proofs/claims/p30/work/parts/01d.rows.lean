theorem k_dX5_field_37 : dk cX5_field [(37, .athrow, 1), (38, .aload_n 0, 1), (39, .getfield 10, 3), (42, .iload_n 1, 1), (43, .invokevirtual 55, 3), (46, .istore_n 2, 1), (47, .aload_n 0, 1), (48, .getfield 21, 3), (51, .invokevirtual 59, 3), (54, .iload_n 2, 1), (55, .ireturn, 1)] = true := by decide +kernel
theorem dX5_field_37 : decode cX5_field 37 = .ok (.athrow, 1) := dk_at k_dX5_field_37 (i := 0) rfl
theorem dX5_field_38 : decode cX5_field 38 = .ok (.aload_n 0, 1) := dk_at k_dX5_field_37 (i := 1) rfl
theorem dX5_field_39 : decode cX5_field 39 = .ok (.getfield 10, 3) := dk_at k_dX5_field_37 (i := 2) rfl
theorem dX5_field_42 : decode cX5_field 42 = .ok (.iload_n 1, 1) := dk_at k_dX5_field_37 (i := 3) rfl
theorem dX5_field_43 : decode cX5_field 43 = .ok (.invokevirtual 55, 3) := dk_at k_dX5_field_37 (i := 4) rfl
theorem dX5_field_46 : decode cX5_field 46 = .ok (.istore_n 2, 1) := dk_at k_dX5_field_37 (i := 5) rfl
theorem dX5_field_47 : decode cX5_field 47 = .ok (.aload_n 0, 1) := dk_at k_dX5_field_37 (i := 6) rfl
theorem dX5_field_48 : decode cX5_field 48 = .ok (.getfield 21, 3) := dk_at k_dX5_field_37 (i := 7) rfl
theorem dX5_field_51 : decode cX5_field 51 = .ok (.invokevirtual 59, 3) := dk_at k_dX5_field_37 (i := 8) rfl
theorem dX5_field_54 : decode cX5_field 54 = .ok (.iload_n 2, 1) := dk_at k_dX5_field_37 (i := 9) rfl
theorem dX5_field_55 : decode cX5_field 55 = .ok (.ireturn, 1) := dk_at k_dX5_field_37 (i := 10) rfl
theorem k_dX5_oneOf_0 : dk cX5_oneOf [(0, .aload_n 0, 1), (1, .iload_n 2, 1), (2, .invokevirtual 62, 3), (5, .ifCond .ne 13, 3), (8, .new 65, 3), (11, .dup, 1), (12, .ldc 67, 2), (14, .invokespecial 69, 3), (17, .athrow, 1), (18, .iload_n 1, 1), (19, .invokestatic 36, 3), (22, .ifCond .eq 15, 3), (25, .iload_n 3, 1), (26, .iconst 1, 1), (27, .if_icmp .lt 10, 3), (30, .iload_n 3, 1), (31, .sipush 255, 3), (34, .if_icmp .le 13, 3), (37, .new 40, 3), (40, .dup, 1), (41, .ldc 70, 2), (43, .invokespecial 44, 3), (46, .athrow, 1), (47, .aload_n 0, 1), (48, .getfield 10, 3), (51, .getfield 72, 3), (54, .bipush 30, 2), (56, .if_icmp .lt 13, 3), (59, .new 50, 3), (62, .dup, 1), (63, .ldc 75, 2), (65, .invokespecial 54, 3)] = true := by decide +kernel
theorem dX5_oneOf_0 : decode cX5_oneOf 0 = .ok (.aload_n 0, 1) := dk_at k_dX5_oneOf_0 (i := 0) rfl
theorem dX5_oneOf_1 : decode cX5_oneOf 1 = .ok (.iload_n 2, 1) := dk_at k_dX5_oneOf_0 (i := 1) rfl
theorem dX5_oneOf_2 : decode cX5_oneOf 2 = .ok (.invokevirtual 62, 3) := dk_at k_dX5_oneOf_0 (i := 2) rfl
theorem dX5_oneOf_5 : decode cX5_oneOf 5 = .ok (.ifCond .ne 13, 3) := dk_at k_dX5_oneOf_0 (i := 3) rfl
theorem dX5_oneOf_8 : decode cX5_oneOf 8 = .ok (.new 65, 3) := dk_at k_dX5_oneOf_0 (i := 4) rfl
theorem dX5_oneOf_11 : decode cX5_oneOf 11 = .ok (.dup, 1) := dk_at k_dX5_oneOf_0 (i := 5) rfl
theorem dX5_oneOf_12 : decode cX5_oneOf 12 = .ok (.ldc 67, 2) := dk_at k_dX5_oneOf_0 (i := 6) rfl
theorem dX5_oneOf_14 : decode cX5_oneOf 14 = .ok (.invokespecial 69, 3) := dk_at k_dX5_oneOf_0 (i := 7) rfl
theorem dX5_oneOf_17 : decode cX5_oneOf 17 = .ok (.athrow, 1) := dk_at k_dX5_oneOf_0 (i := 8) rfl
theorem dX5_oneOf_18 : decode cX5_oneOf 18 = .ok (.iload_n 1, 1) := dk_at k_dX5_oneOf_0 (i := 9) rfl
theorem dX5_oneOf_19 : decode cX5_oneOf 19 = .ok (.invokestatic 36, 3) := dk_at k_dX5_oneOf_0 (i := 10) rfl
theorem dX5_oneOf_22 : decode cX5_oneOf 22 = .ok (.ifCond .eq 15, 3) := dk_at k_dX5_oneOf_0 (i := 11) rfl
theorem dX5_oneOf_25 : decode cX5_oneOf 25 = .ok (.iload_n 3, 1) := dk_at k_dX5_oneOf_0 (i := 12) rfl
theorem dX5_oneOf_26 : decode cX5_oneOf 26 = .ok (.iconst 1, 1) := dk_at k_dX5_oneOf_0 (i := 13) rfl
theorem dX5_oneOf_27 : decode cX5_oneOf 27 = .ok (.if_icmp .lt 10, 3) := dk_at k_dX5_oneOf_0 (i := 14) rfl
theorem dX5_oneOf_30 : decode cX5_oneOf 30 = .ok (.iload_n 3, 1) := dk_at k_dX5_oneOf_0 (i := 15) rfl
theorem dX5_oneOf_31 : decode cX5_oneOf 31 = .ok (.sipush 255, 3) := dk_at k_dX5_oneOf_0 (i := 16) rfl
theorem dX5_oneOf_34 : decode cX5_oneOf 34 = .ok (.if_icmp .le 13, 3) := dk_at k_dX5_oneOf_0 (i := 17) rfl
theorem dX5_oneOf_37 : decode cX5_oneOf 37 = .ok (.new 40, 3) := dk_at k_dX5_oneOf_0 (i := 18) rfl
theorem dX5_oneOf_40 : decode cX5_oneOf 40 = .ok (.dup, 1) := dk_at k_dX5_oneOf_0 (i := 19) rfl
theorem dX5_oneOf_41 : decode cX5_oneOf 41 = .ok (.ldc 70, 2) := dk_at k_dX5_oneOf_0 (i := 20) rfl
theorem dX5_oneOf_43 : decode cX5_oneOf 43 = .ok (.invokespecial 44, 3) := dk_at k_dX5_oneOf_0 (i := 21) rfl
theorem dX5_oneOf_46 : decode cX5_oneOf 46 = .ok (.athrow, 1) := dk_at k_dX5_oneOf_0 (i := 22) rfl
theorem dX5_oneOf_47 : decode cX5_oneOf 47 = .ok (.aload_n 0, 1) := dk_at k_dX5_oneOf_0 (i := 23) rfl
theorem dX5_oneOf_48 : decode cX5_oneOf 48 = .ok (.getfield 10, 3) := dk_at k_dX5_oneOf_0 (i := 24) rfl
theorem dX5_oneOf_51 : decode cX5_oneOf 51 = .ok (.getfield 72, 3) := dk_at k_dX5_oneOf_0 (i := 25) rfl
theorem dX5_oneOf_54 : decode cX5_oneOf 54 = .ok (.bipush 30, 2) := dk_at k_dX5_oneOf_0 (i := 26) rfl
theorem dX5_oneOf_56 : decode cX5_oneOf 56 = .ok (.if_icmp .lt 13, 3) := dk_at k_dX5_oneOf_0 (i := 27) rfl
theorem dX5_oneOf_59 : decode cX5_oneOf 59 = .ok (.new 50, 3) := dk_at k_dX5_oneOf_0 (i := 28) rfl
theorem dX5_oneOf_62 : decode cX5_oneOf 62 = .ok (.dup, 1) := dk_at k_dX5_oneOf_0 (i := 29) rfl
theorem dX5_oneOf_63 : decode cX5_oneOf 63 = .ok (.ldc 75, 2) := dk_at k_dX5_oneOf_0 (i := 30) rfl
theorem dX5_oneOf_65 : decode cX5_oneOf 65 = .ok (.invokespecial 54, 3) := dk_at k_dX5_oneOf_0 (i := 31) rfl
theorem k_dX5_oneOf_68 : dk cX5_oneOf [(68, .athrow, 1), (69, .aload_n 0, 1), (70, .iconst 0, 1), (71, .iload_n 1, 1), (72, .iload_n 2, 1), (73, .iload_n 3, 1), (74, .iconst 0, 1), (75, .invokevirtual 77, 3), (78, .ireturn, 1)] = true := by decide +kernel
theorem dX5_oneOf_68 : decode cX5_oneOf 68 = .ok (.athrow, 1) := dk_at k_dX5_oneOf_68 (i := 0) rfl
theorem dX5_oneOf_69 : decode cX5_oneOf 69 = .ok (.aload_n 0, 1) := dk_at k_dX5_oneOf_68 (i := 1) rfl
theorem dX5_oneOf_70 : decode cX5_oneOf 70 = .ok (.iconst 0, 1) := dk_at k_dX5_oneOf_68 (i := 2) rfl
theorem dX5_oneOf_71 : decode cX5_oneOf 71 = .ok (.iload_n 1, 1) := dk_at k_dX5_oneOf_68 (i := 3) rfl
theorem dX5_oneOf_72 : decode cX5_oneOf 72 = .ok (.iload_n 2, 1) := dk_at k_dX5_oneOf_68 (i := 4) rfl
theorem dX5_oneOf_73 : decode cX5_oneOf 73 = .ok (.iload_n 3, 1) := dk_at k_dX5_oneOf_68 (i := 5) rfl
theorem dX5_oneOf_74 : decode cX5_oneOf 74 = .ok (.iconst 0, 1) := dk_at k_dX5_oneOf_68 (i := 6) rfl
theorem dX5_oneOf_75 : decode cX5_oneOf 75 = .ok (.invokevirtual 77, 3) := dk_at k_dX5_oneOf_68 (i := 7) rfl
theorem dX5_oneOf_78 : decode cX5_oneOf 78 = .ok (.ireturn, 1) := dk_at k_dX5_oneOf_68 (i := 8) rfl
theorem k_dX5_bound_0 : dk cX5_bound [(0, .aload_n 0, 1), (1, .iload_n 2, 1), (2, .invokevirtual 62, 3), (5, .ifCond .ne 13, 3), (8, .new 65, 3), (11, .dup, 1), (12, .ldc 67, 2), (14, .invokespecial 69, 3), (17, .athrow, 1), (18, .iload_n 1, 1), (19, .invokestatic 36, 3), (22, .ifCond .eq 10, 3), (25, .iload_n 3, 1), (26, .invokestatic 81, 3), (29, .ifCond .ne 13, 3), (32, .new 40, 3), (35, .dup, 1), (36, .ldc 84, 2), (38, .invokespecial 44, 3), (41, .athrow, 1), (42, .aload_n 0, 1), (43, .getfield 10, 3), (46, .getfield 72, 3), (49, .bipush 30, 2), (51, .if_icmp .lt 13, 3), (54, .new 50, 3), (57, .dup, 1), (58, .ldc 75, 2), (60, .invokespecial 54, 3), (63, .athrow, 1), (64, .aload_n 0, 1), (65, .iload 4, 2)] = true := by decide +kernel
theorem dX5_bound_0 : decode cX5_bound 0 = .ok (.aload_n 0, 1) := dk_at k_dX5_bound_0 (i := 0) rfl
theorem dX5_bound_1 : decode cX5_bound 1 = .ok (.iload_n 2, 1) := dk_at k_dX5_bound_0 (i := 1) rfl
theorem dX5_bound_2 : decode cX5_bound 2 = .ok (.invokevirtual 62, 3) := dk_at k_dX5_bound_0 (i := 2) rfl
theorem dX5_bound_5 : decode cX5_bound 5 = .ok (.ifCond .ne 13, 3) := dk_at k_dX5_bound_0 (i := 3) rfl
theorem dX5_bound_8 : decode cX5_bound 8 = .ok (.new 65, 3) := dk_at k_dX5_bound_0 (i := 4) rfl
theorem dX5_bound_11 : decode cX5_bound 11 = .ok (.dup, 1) := dk_at k_dX5_bound_0 (i := 5) rfl
theorem dX5_bound_12 : decode cX5_bound 12 = .ok (.ldc 67, 2) := dk_at k_dX5_bound_0 (i := 6) rfl
theorem dX5_bound_14 : decode cX5_bound 14 = .ok (.invokespecial 69, 3) := dk_at k_dX5_bound_0 (i := 7) rfl
theorem dX5_bound_17 : decode cX5_bound 17 = .ok (.athrow, 1) := dk_at k_dX5_bound_0 (i := 8) rfl
theorem dX5_bound_18 : decode cX5_bound 18 = .ok (.iload_n 1, 1) := dk_at k_dX5_bound_0 (i := 9) rfl
theorem dX5_bound_19 : decode cX5_bound 19 = .ok (.invokestatic 36, 3) := dk_at k_dX5_bound_0 (i := 10) rfl
theorem dX5_bound_22 : decode cX5_bound 22 = .ok (.ifCond .eq 10, 3) := dk_at k_dX5_bound_0 (i := 11) rfl
theorem dX5_bound_25 : decode cX5_bound 25 = .ok (.iload_n 3, 1) := dk_at k_dX5_bound_0 (i := 12) rfl
theorem dX5_bound_26 : decode cX5_bound 26 = .ok (.invokestatic 81, 3) := dk_at k_dX5_bound_0 (i := 13) rfl
theorem dX5_bound_29 : decode cX5_bound 29 = .ok (.ifCond .ne 13, 3) := dk_at k_dX5_bound_0 (i := 14) rfl
theorem dX5_bound_32 : decode cX5_bound 32 = .ok (.new 40, 3) := dk_at k_dX5_bound_0 (i := 15) rfl
theorem dX5_bound_35 : decode cX5_bound 35 = .ok (.dup, 1) := dk_at k_dX5_bound_0 (i := 16) rfl
theorem dX5_bound_36 : decode cX5_bound 36 = .ok (.ldc 84, 2) := dk_at k_dX5_bound_0 (i := 17) rfl
theorem dX5_bound_38 : decode cX5_bound 38 = .ok (.invokespecial 44, 3) := dk_at k_dX5_bound_0 (i := 18) rfl
theorem dX5_bound_41 : decode cX5_bound 41 = .ok (.athrow, 1) := dk_at k_dX5_bound_0 (i := 19) rfl
theorem dX5_bound_42 : decode cX5_bound 42 = .ok (.aload_n 0, 1) := dk_at k_dX5_bound_0 (i := 20) rfl
theorem dX5_bound_43 : decode cX5_bound 43 = .ok (.getfield 10, 3) := dk_at k_dX5_bound_0 (i := 21) rfl
theorem dX5_bound_46 : decode cX5_bound 46 = .ok (.getfield 72, 3) := dk_at k_dX5_bound_0 (i := 22) rfl
theorem dX5_bound_49 : decode cX5_bound 49 = .ok (.bipush 30, 2) := dk_at k_dX5_bound_0 (i := 23) rfl
theorem dX5_bound_51 : decode cX5_bound 51 = .ok (.if_icmp .lt 13, 3) := dk_at k_dX5_bound_0 (i := 24) rfl
theorem dX5_bound_54 : decode cX5_bound 54 = .ok (.new 50, 3) := dk_at k_dX5_bound_0 (i := 25) rfl
theorem dX5_bound_57 : decode cX5_bound 57 = .ok (.dup, 1) := dk_at k_dX5_bound_0 (i := 26) rfl
theorem dX5_bound_58 : decode cX5_bound 58 = .ok (.ldc 75, 2) := dk_at k_dX5_bound_0 (i := 27) rfl
theorem dX5_bound_60 : decode cX5_bound 60 = .ok (.invokespecial 54, 3) := dk_at k_dX5_bound_0 (i := 28) rfl
theorem dX5_bound_63 : decode cX5_bound 63 = .ok (.athrow, 1) := dk_at k_dX5_bound_0 (i := 29) rfl
theorem dX5_bound_64 : decode cX5_bound 64 = .ok (.aload_n 0, 1) := dk_at k_dX5_bound_0 (i := 30) rfl
theorem dX5_bound_65 : decode cX5_bound 65 = .ok (.iload 4, 2) := dk_at k_dX5_bound_0 (i := 31) rfl
theorem k_dX5_bound_67 : dk cX5_bound [(67, .ifCond .eq 7, 3), (70, .iconst 2, 1), (71, .goto 4, 3), (74, .iconst 1, 1), (75, .iload_n 1, 1), (76, .iload_n 2, 1), (77, .iload_n 3, 1), (78, .iconst 0, 1), (79, .invokevirtual 77, 3), (82, .ireturn, 1)] = true := by decide +kernel
theorem dX5_bound_67 : decode cX5_bound 67 = .ok (.ifCond .eq 7, 3) := dk_at k_dX5_bound_67 (i := 0) rfl
theorem dX5_bound_70 : decode cX5_bound 70 = .ok (.iconst 2, 1) := dk_at k_dX5_bound_67 (i := 1) rfl
theorem dX5_bound_71 : decode cX5_bound 71 = .ok (.goto 4, 3) := dk_at k_dX5_bound_67 (i := 2) rfl
theorem dX5_bound_74 : decode cX5_bound 74 = .ok (.iconst 1, 1) := dk_at k_dX5_bound_67 (i := 3) rfl
theorem dX5_bound_75 : decode cX5_bound 75 = .ok (.iload_n 1, 1) := dk_at k_dX5_bound_67 (i := 4) rfl
theorem dX5_bound_76 : decode cX5_bound 76 = .ok (.iload_n 2, 1) := dk_at k_dX5_bound_67 (i := 5) rfl
theorem dX5_bound_77 : decode cX5_bound 77 = .ok (.iload_n 3, 1) := dk_at k_dX5_bound_67 (i := 6) rfl
theorem dX5_bound_78 : decode cX5_bound 78 = .ok (.iconst 0, 1) := dk_at k_dX5_bound_67 (i := 7) rfl
theorem dX5_bound_79 : decode cX5_bound 79 = .ok (.invokevirtual 77, 3) := dk_at k_dX5_bound_67 (i := 8) rfl
theorem dX5_bound_82 : decode cX5_bound 82 = .ok (.ireturn, 1) := dk_at k_dX5_bound_67 (i := 9) rfl
theorem k_dX5_more_0 : dk cX5_more [(0, .aload_n 0, 1), (1, .iload_n 2, 1), (2, .invokevirtual 62, 3), (5, .ifCond .eq 11, 3), (8, .aload_n 0, 1), (9, .iload_n 3, 1), (10, .invokevirtual 62, 3), (13, .ifCond .ne 13, 3), (16, .new 65, 3), (19, .dup, 1), (20, .ldc 67, 2), (22, .invokespecial 69, 3), (25, .athrow, 1), (26, .iload_n 1, 1), (27, .invokestatic 36, 3), (30, .ifCond .eq 22, 3), (33, .iload_n 2, 1), (34, .iload_n 3, 1), (35, .if_icmp .eq 17, 3), (38, .iload 4, 2), (40, .bipush (-7), 2), (42, .if_icmp .lt 10, 3), (45, .iload 4, 2), (47, .bipush 7, 2), (49, .if_icmp .le 13, 3), (52, .new 40, 3), (55, .dup, 1), (56, .ldc 86, 2), (58, .invokespecial 44, 3), (61, .athrow, 1), (62, .aload_n 0, 1), (63, .getfield 10, 3)] = true := by decide +kernel
theorem dX5_more_0 : decode cX5_more 0 = .ok (.aload_n 0, 1) := dk_at k_dX5_more_0 (i := 0) rfl
theorem dX5_more_1 : decode cX5_more 1 = .ok (.iload_n 2, 1) := dk_at k_dX5_more_0 (i := 1) rfl
theorem dX5_more_2 : decode cX5_more 2 = .ok (.invokevirtual 62, 3) := dk_at k_dX5_more_0 (i := 2) rfl
theorem dX5_more_5 : decode cX5_more 5 = .ok (.ifCond .eq 11, 3) := dk_at k_dX5_more_0 (i := 3) rfl
theorem dX5_more_8 : decode cX5_more 8 = .ok (.aload_n 0, 1) := dk_at k_dX5_more_0 (i := 4) rfl
theorem dX5_more_9 : decode cX5_more 9 = .ok (.iload_n 3, 1) := dk_at k_dX5_more_0 (i := 5) rfl
theorem dX5_more_10 : decode cX5_more 10 = .ok (.invokevirtual 62, 3) := dk_at k_dX5_more_0 (i := 6) rfl
theorem dX5_more_13 : decode cX5_more 13 = .ok (.ifCond .ne 13, 3) := dk_at k_dX5_more_0 (i := 7) rfl
theorem dX5_more_16 : decode cX5_more 16 = .ok (.new 65, 3) := dk_at k_dX5_more_0 (i := 8) rfl
theorem dX5_more_19 : decode cX5_more 19 = .ok (.dup, 1) := dk_at k_dX5_more_0 (i := 9) rfl
theorem dX5_more_20 : decode cX5_more 20 = .ok (.ldc 67, 2) := dk_at k_dX5_more_0 (i := 10) rfl
theorem dX5_more_22 : decode cX5_more 22 = .ok (.invokespecial 69, 3) := dk_at k_dX5_more_0 (i := 11) rfl
theorem dX5_more_25 : decode cX5_more 25 = .ok (.athrow, 1) := dk_at k_dX5_more_0 (i := 12) rfl
theorem dX5_more_26 : decode cX5_more 26 = .ok (.iload_n 1, 1) := dk_at k_dX5_more_0 (i := 13) rfl
theorem dX5_more_27 : decode cX5_more 27 = .ok (.invokestatic 36, 3) := dk_at k_dX5_more_0 (i := 14) rfl
theorem dX5_more_30 : decode cX5_more 30 = .ok (.ifCond .eq 22, 3) := dk_at k_dX5_more_0 (i := 15) rfl
theorem dX5_more_33 : decode cX5_more 33 = .ok (.iload_n 2, 1) := dk_at k_dX5_more_0 (i := 16) rfl
theorem dX5_more_34 : decode cX5_more 34 = .ok (.iload_n 3, 1) := dk_at k_dX5_more_0 (i := 17) rfl
theorem dX5_more_35 : decode cX5_more 35 = .ok (.if_icmp .eq 17, 3) := dk_at k_dX5_more_0 (i := 18) rfl
theorem dX5_more_38 : decode cX5_more 38 = .ok (.iload 4, 2) := dk_at k_dX5_more_0 (i := 19) rfl
theorem dX5_more_40 : decode cX5_more 40 = .ok (.bipush (-7), 2) := dk_at k_dX5_more_0 (i := 20) rfl
theorem dX5_more_42 : decode cX5_more 42 = .ok (.if_icmp .lt 10, 3) := dk_at k_dX5_more_0 (i := 21) rfl
theorem dX5_more_45 : decode cX5_more 45 = .ok (.iload 4, 2) := dk_at k_dX5_more_0 (i := 22) rfl
theorem dX5_more_47 : decode cX5_more 47 = .ok (.bipush 7, 2) := dk_at k_dX5_more_0 (i := 23) rfl
theorem dX5_more_49 : decode cX5_more 49 = .ok (.if_icmp .le 13, 3) := dk_at k_dX5_more_0 (i := 24) rfl
theorem dX5_more_52 : decode cX5_more 52 = .ok (.new 40, 3) := dk_at k_dX5_more_0 (i := 25) rfl
theorem dX5_more_55 : decode cX5_more 55 = .ok (.dup, 1) := dk_at k_dX5_more_0 (i := 26) rfl
theorem dX5_more_56 : decode cX5_more 56 = .ok (.ldc 86, 2) := dk_at k_dX5_more_0 (i := 27) rfl
theorem dX5_more_58 : decode cX5_more 58 = .ok (.invokespecial 44, 3) := dk_at k_dX5_more_0 (i := 28) rfl
theorem dX5_more_61 : decode cX5_more 61 = .ok (.athrow, 1) := dk_at k_dX5_more_0 (i := 29) rfl
theorem dX5_more_62 : decode cX5_more 62 = .ok (.aload_n 0, 1) := dk_at k_dX5_more_0 (i := 30) rfl
theorem dX5_more_63 : decode cX5_more 63 = .ok (.getfield 10, 3) := dk_at k_dX5_more_0 (i := 31) rfl
theorem k_dX5_more_66 : dk cX5_more [(66, .getfield 72, 3), (69, .bipush 30, 2), (71, .if_icmp .lt 13, 3), (74, .new 50, 3), (77, .dup, 1), (78, .ldc 75, 2), (80, .invokespecial 54, 3), (83, .athrow, 1), (84, .aload_n 0, 1), (85, .iconst 3, 1), (86, .iload_n 1, 1), (87, .iload_n 2, 1), (88, .iload_n 3, 1), (89, .iload 4, 2), (91, .invokevirtual 77, 3), (94, .ireturn, 1)] = true := by decide +kernel
theorem dX5_more_66 : decode cX5_more 66 = .ok (.getfield 72, 3) := dk_at k_dX5_more_66 (i := 0) rfl
theorem dX5_more_69 : decode cX5_more 69 = .ok (.bipush 30, 2) := dk_at k_dX5_more_66 (i := 1) rfl
theorem dX5_more_71 : decode cX5_more 71 = .ok (.if_icmp .lt 13, 3) := dk_at k_dX5_more_66 (i := 2) rfl
theorem dX5_more_74 : decode cX5_more 74 = .ok (.new 50, 3) := dk_at k_dX5_more_66 (i := 3) rfl
theorem dX5_more_77 : decode cX5_more 77 = .ok (.dup, 1) := dk_at k_dX5_more_66 (i := 4) rfl
theorem dX5_more_78 : decode cX5_more 78 = .ok (.ldc 75, 2) := dk_at k_dX5_more_66 (i := 5) rfl
theorem dX5_more_80 : decode cX5_more 80 = .ok (.invokespecial 54, 3) := dk_at k_dX5_more_66 (i := 6) rfl
theorem dX5_more_83 : decode cX5_more 83 = .ok (.athrow, 1) := dk_at k_dX5_more_66 (i := 7) rfl
theorem dX5_more_84 : decode cX5_more 84 = .ok (.aload_n 0, 1) := dk_at k_dX5_more_66 (i := 8) rfl
theorem dX5_more_85 : decode cX5_more 85 = .ok (.iconst 3, 1) := dk_at k_dX5_more_66 (i := 9) rfl
theorem dX5_more_86 : decode cX5_more 86 = .ok (.iload_n 1, 1) := dk_at k_dX5_more_66 (i := 10) rfl
theorem dX5_more_87 : decode cX5_more 87 = .ok (.iload_n 2, 1) := dk_at k_dX5_more_66 (i := 11) rfl
theorem dX5_more_88 : decode cX5_more 88 = .ok (.iload_n 3, 1) := dk_at k_dX5_more_66 (i := 12) rfl
theorem dX5_more_89 : decode cX5_more 89 = .ok (.iload 4, 2) := dk_at k_dX5_more_66 (i := 13) rfl
theorem dX5_more_91 : decode cX5_more 91 = .ok (.invokevirtual 77, 3) := dk_at k_dX5_more_66 (i := 14) rfl
theorem dX5_more_94 : decode cX5_more 94 = .ok (.ireturn, 1) := dk_at k_dX5_more_66 (i := 15) rfl
theorem k_dX5_unlike_0 : dk cX5_unlike [(0, .aload_n 0, 1), (1, .iload_n 2, 1), (2, .invokevirtual 62, 3), (5, .ifCond .eq 11, 3), (8, .aload_n 0, 1), (9, .iload_n 3, 1), (10, .invokevirtual 62, 3), (13, .ifCond .ne 13, 3), (16, .new 65, 3), (19, .dup, 1), (20, .ldc 67, 2), (22, .invokespecial 69, 3), (25, .athrow, 1), (26, .iload_n 1, 1), (27, .invokestatic 36, 3), (30, .ifCond .eq 8, 3), (33, .iload_n 2, 1), (34, .iload_n 3, 1), (35, .if_icmp .ne 13, 3), (38, .new 40, 3), (41, .dup, 1), (42, .ldc 88, 2), (44, .invokespecial 44, 3), (47, .athrow, 1), (48, .aload_n 0, 1), (49, .getfield 10, 3), (52, .getfield 72, 3), (55, .bipush 30, 2), (57, .if_icmp .lt 13, 3), (60, .new 50, 3), (63, .dup, 1), (64, .ldc 75, 2)] = true := by decide +kernel
theorem dX5_unlike_0 : decode cX5_unlike 0 = .ok (.aload_n 0, 1) := dk_at k_dX5_unlike_0 (i := 0) rfl
theorem dX5_unlike_1 : decode cX5_unlike 1 = .ok (.iload_n 2, 1) := dk_at k_dX5_unlike_0 (i := 1) rfl
theorem dX5_unlike_2 : decode cX5_unlike 2 = .ok (.invokevirtual 62, 3) := dk_at k_dX5_unlike_0 (i := 2) rfl
theorem dX5_unlike_5 : decode cX5_unlike 5 = .ok (.ifCond .eq 11, 3) := dk_at k_dX5_unlike_0 (i := 3) rfl
theorem dX5_unlike_8 : decode cX5_unlike 8 = .ok (.aload_n 0, 1) := dk_at k_dX5_unlike_0 (i := 4) rfl
theorem dX5_unlike_9 : decode cX5_unlike 9 = .ok (.iload_n 3, 1) := dk_at k_dX5_unlike_0 (i := 5) rfl
theorem dX5_unlike_10 : decode cX5_unlike 10 = .ok (.invokevirtual 62, 3) := dk_at k_dX5_unlike_0 (i := 6) rfl
theorem dX5_unlike_13 : decode cX5_unlike 13 = .ok (.ifCond .ne 13, 3) := dk_at k_dX5_unlike_0 (i := 7) rfl
theorem dX5_unlike_16 : decode cX5_unlike 16 = .ok (.new 65, 3) := dk_at k_dX5_unlike_0 (i := 8) rfl
theorem dX5_unlike_19 : decode cX5_unlike 19 = .ok (.dup, 1) := dk_at k_dX5_unlike_0 (i := 9) rfl
theorem dX5_unlike_20 : decode cX5_unlike 20 = .ok (.ldc 67, 2) := dk_at k_dX5_unlike_0 (i := 10) rfl
theorem dX5_unlike_22 : decode cX5_unlike 22 = .ok (.invokespecial 69, 3) := dk_at k_dX5_unlike_0 (i := 11) rfl
theorem dX5_unlike_25 : decode cX5_unlike 25 = .ok (.athrow, 1) := dk_at k_dX5_unlike_0 (i := 12) rfl
theorem dX5_unlike_26 : decode cX5_unlike 26 = .ok (.iload_n 1, 1) := dk_at k_dX5_unlike_0 (i := 13) rfl
theorem dX5_unlike_27 : decode cX5_unlike 27 = .ok (.invokestatic 36, 3) := dk_at k_dX5_unlike_0 (i := 14) rfl
theorem dX5_unlike_30 : decode cX5_unlike 30 = .ok (.ifCond .eq 8, 3) := dk_at k_dX5_unlike_0 (i := 15) rfl
theorem dX5_unlike_33 : decode cX5_unlike 33 = .ok (.iload_n 2, 1) := dk_at k_dX5_unlike_0 (i := 16) rfl
theorem dX5_unlike_34 : decode cX5_unlike 34 = .ok (.iload_n 3, 1) := dk_at k_dX5_unlike_0 (i := 17) rfl
theorem dX5_unlike_35 : decode cX5_unlike 35 = .ok (.if_icmp .ne 13, 3) := dk_at k_dX5_unlike_0 (i := 18) rfl
theorem dX5_unlike_38 : decode cX5_unlike 38 = .ok (.new 40, 3) := dk_at k_dX5_unlike_0 (i := 19) rfl
theorem dX5_unlike_41 : decode cX5_unlike 41 = .ok (.dup, 1) := dk_at k_dX5_unlike_0 (i := 20) rfl
theorem dX5_unlike_42 : decode cX5_unlike 42 = .ok (.ldc 88, 2) := dk_at k_dX5_unlike_0 (i := 21) rfl
theorem dX5_unlike_44 : decode cX5_unlike 44 = .ok (.invokespecial 44, 3) := dk_at k_dX5_unlike_0 (i := 22) rfl
theorem dX5_unlike_47 : decode cX5_unlike 47 = .ok (.athrow, 1) := dk_at k_dX5_unlike_0 (i := 23) rfl
theorem dX5_unlike_48 : decode cX5_unlike 48 = .ok (.aload_n 0, 1) := dk_at k_dX5_unlike_0 (i := 24) rfl
theorem dX5_unlike_49 : decode cX5_unlike 49 = .ok (.getfield 10, 3) := dk_at k_dX5_unlike_0 (i := 25) rfl
theorem dX5_unlike_52 : decode cX5_unlike 52 = .ok (.getfield 72, 3) := dk_at k_dX5_unlike_0 (i := 26) rfl
theorem dX5_unlike_55 : decode cX5_unlike 55 = .ok (.bipush 30, 2) := dk_at k_dX5_unlike_0 (i := 27) rfl
theorem dX5_unlike_57 : decode cX5_unlike 57 = .ok (.if_icmp .lt 13, 3) := dk_at k_dX5_unlike_0 (i := 28) rfl
theorem dX5_unlike_60 : decode cX5_unlike 60 = .ok (.new 50, 3) := dk_at k_dX5_unlike_0 (i := 29) rfl
theorem dX5_unlike_63 : decode cX5_unlike 63 = .ok (.dup, 1) := dk_at k_dX5_unlike_0 (i := 30) rfl
theorem dX5_unlike_64 : decode cX5_unlike 64 = .ok (.ldc 75, 2) := dk_at k_dX5_unlike_0 (i := 31) rfl
theorem k_dX5_unlike_66 : dk cX5_unlike [(66, .invokespecial 54, 3), (69, .athrow, 1), (70, .aload_n 0, 1), (71, .iconst 4, 1), (72, .iload_n 1, 1), (73, .iload_n 2, 1), (74, .iload_n 3, 1), (75, .iconst 0, 1), (76, .invokevirtual 77, 3), (79, .ireturn, 1)] = true := by decide +kernel
theorem dX5_unlike_66 : decode cX5_unlike 66 = .ok (.invokespecial 54, 3) := dk_at k_dX5_unlike_66 (i := 0) rfl
theorem dX5_unlike_69 : decode cX5_unlike 69 = .ok (.athrow, 1) := dk_at k_dX5_unlike_66 (i := 1) rfl
theorem dX5_unlike_70 : decode cX5_unlike 70 = .ok (.aload_n 0, 1) := dk_at k_dX5_unlike_66 (i := 2) rfl
theorem dX5_unlike_71 : decode cX5_unlike 71 = .ok (.iconst 4, 1) := dk_at k_dX5_unlike_66 (i := 3) rfl
theorem dX5_unlike_72 : decode cX5_unlike 72 = .ok (.iload_n 1, 1) := dk_at k_dX5_unlike_66 (i := 4) rfl
theorem dX5_unlike_73 : decode cX5_unlike 73 = .ok (.iload_n 2, 1) := dk_at k_dX5_unlike_66 (i := 5) rfl
theorem dX5_unlike_74 : decode cX5_unlike 74 = .ok (.iload_n 3, 1) := dk_at k_dX5_unlike_66 (i := 6) rfl
theorem dX5_unlike_75 : decode cX5_unlike 75 = .ok (.iconst 0, 1) := dk_at k_dX5_unlike_66 (i := 7) rfl
theorem dX5_unlike_76 : decode cX5_unlike 76 = .ok (.invokevirtual 77, 3) := dk_at k_dX5_unlike_66 (i := 8) rfl
theorem dX5_unlike_79 : decode cX5_unlike 79 = .ok (.ireturn, 1) := dk_at k_dX5_unlike_66 (i := 9) rfl
theorem k_dX5_preset_0 : dk cX5_preset [(0, .aload_n 0, 1), (1, .iload_n 2, 1), (2, .invokevirtual 62, 3), (5, .ifCond .ne 13, 3), (8, .new 65, 3), (11, .dup, 1), (12, .ldc 67, 2), (14, .invokespecial 69, 3), (17, .athrow, 1), (18, .iload_n 1, 1), (19, .invokestatic 36, 3), (22, .ifCond .eq 22, 3), (25, .iload_n 3, 1), (26, .invokestatic 81, 3), (29, .ifCond .eq 15, 3), (32, .iload 4, 2), (34, .ifCond .lt 10, 3), (37, .iload 4, 2), (39, .bipush 9, 2), (41, .if_icmp .le 13, 3), (44, .new 40, 3), (47, .dup, 1), (48, .ldc 90, 2), (50, .invokespecial 44, 3), (53, .athrow, 1), (54, .aload_n 0, 1), (55, .getfield 10, 3), (58, .getfield 72, 3), (61, .bipush 30, 2), (63, .if_icmp .lt 13, 3), (66, .new 50, 3), (69, .dup, 1)] = true := by decide +kernel
theorem dX5_preset_0 : decode cX5_preset 0 = .ok (.aload_n 0, 1) := dk_at k_dX5_preset_0 (i := 0) rfl
theorem dX5_preset_1 : decode cX5_preset 1 = .ok (.iload_n 2, 1) := dk_at k_dX5_preset_0 (i := 1) rfl
theorem dX5_preset_2 : decode cX5_preset 2 = .ok (.invokevirtual 62, 3) := dk_at k_dX5_preset_0 (i := 2) rfl
theorem dX5_preset_5 : decode cX5_preset 5 = .ok (.ifCond .ne 13, 3) := dk_at k_dX5_preset_0 (i := 3) rfl
theorem dX5_preset_8 : decode cX5_preset 8 = .ok (.new 65, 3) := dk_at k_dX5_preset_0 (i := 4) rfl
theorem dX5_preset_11 : decode cX5_preset 11 = .ok (.dup, 1) := dk_at k_dX5_preset_0 (i := 5) rfl
theorem dX5_preset_12 : decode cX5_preset 12 = .ok (.ldc 67, 2) := dk_at k_dX5_preset_0 (i := 6) rfl
theorem dX5_preset_14 : decode cX5_preset 14 = .ok (.invokespecial 69, 3) := dk_at k_dX5_preset_0 (i := 7) rfl
theorem dX5_preset_17 : decode cX5_preset 17 = .ok (.athrow, 1) := dk_at k_dX5_preset_0 (i := 8) rfl
theorem dX5_preset_18 : decode cX5_preset 18 = .ok (.iload_n 1, 1) := dk_at k_dX5_preset_0 (i := 9) rfl
theorem dX5_preset_19 : decode cX5_preset 19 = .ok (.invokestatic 36, 3) := dk_at k_dX5_preset_0 (i := 10) rfl
theorem dX5_preset_22 : decode cX5_preset 22 = .ok (.ifCond .eq 22, 3) := dk_at k_dX5_preset_0 (i := 11) rfl
theorem dX5_preset_25 : decode cX5_preset 25 = .ok (.iload_n 3, 1) := dk_at k_dX5_preset_0 (i := 12) rfl
theorem dX5_preset_26 : decode cX5_preset 26 = .ok (.invokestatic 81, 3) := dk_at k_dX5_preset_0 (i := 13) rfl
theorem dX5_preset_29 : decode cX5_preset 29 = .ok (.ifCond .eq 15, 3) := dk_at k_dX5_preset_0 (i := 14) rfl
theorem dX5_preset_32 : decode cX5_preset 32 = .ok (.iload 4, 2) := dk_at k_dX5_preset_0 (i := 15) rfl
theorem dX5_preset_34 : decode cX5_preset 34 = .ok (.ifCond .lt 10, 3) := dk_at k_dX5_preset_0 (i := 16) rfl
theorem dX5_preset_37 : decode cX5_preset 37 = .ok (.iload 4, 2) := dk_at k_dX5_preset_0 (i := 17) rfl
theorem dX5_preset_39 : decode cX5_preset 39 = .ok (.bipush 9, 2) := dk_at k_dX5_preset_0 (i := 18) rfl
theorem dX5_preset_41 : decode cX5_preset 41 = .ok (.if_icmp .le 13, 3) := dk_at k_dX5_preset_0 (i := 19) rfl
theorem dX5_preset_44 : decode cX5_preset 44 = .ok (.new 40, 3) := dk_at k_dX5_preset_0 (i := 20) rfl
theorem dX5_preset_47 : decode cX5_preset 47 = .ok (.dup, 1) := dk_at k_dX5_preset_0 (i := 21) rfl
theorem dX5_preset_48 : decode cX5_preset 48 = .ok (.ldc 90, 2) := dk_at k_dX5_preset_0 (i := 22) rfl
theorem dX5_preset_50 : decode cX5_preset 50 = .ok (.invokespecial 44, 3) := dk_at k_dX5_preset_0 (i := 23) rfl
theorem dX5_preset_53 : decode cX5_preset 53 = .ok (.athrow, 1) := dk_at k_dX5_preset_0 (i := 24) rfl
theorem dX5_preset_54 : decode cX5_preset 54 = .ok (.aload_n 0, 1) := dk_at k_dX5_preset_0 (i := 25) rfl
theorem dX5_preset_55 : decode cX5_preset 55 = .ok (.getfield 10, 3) := dk_at k_dX5_preset_0 (i := 26) rfl
theorem dX5_preset_58 : decode cX5_preset 58 = .ok (.getfield 72, 3) := dk_at k_dX5_preset_0 (i := 27) rfl
theorem dX5_preset_61 : decode cX5_preset 61 = .ok (.bipush 30, 2) := dk_at k_dX5_preset_0 (i := 28) rfl
theorem dX5_preset_63 : decode cX5_preset 63 = .ok (.if_icmp .lt 13, 3) := dk_at k_dX5_preset_0 (i := 29) rfl
theorem dX5_preset_66 : decode cX5_preset 66 = .ok (.new 50, 3) := dk_at k_dX5_preset_0 (i := 30) rfl
theorem dX5_preset_69 : decode cX5_preset 69 = .ok (.dup, 1) := dk_at k_dX5_preset_0 (i := 31) rfl
theorem k_dX5_preset_70 : dk cX5_preset [(70, .ldc 75, 2), (72, .invokespecial 54, 3), (75, .athrow, 1), (76, .aload_n 0, 1), (77, .iconst 5, 1), (78, .iload_n 1, 1), (79, .iload_n 2, 1), (80, .iload_n 3, 1), (81, .iload 4, 2), (83, .invokevirtual 77, 3), (86, .ireturn, 1)] = true := by decide +kernel
theorem dX5_preset_70 : decode cX5_preset 70 = .ok (.ldc 75, 2) := dk_at k_dX5_preset_70 (i := 0) rfl
theorem dX5_preset_72 : decode cX5_preset 72 = .ok (.invokespecial 54, 3) := dk_at k_dX5_preset_70 (i := 1) rfl
theorem dX5_preset_75 : decode cX5_preset 75 = .ok (.athrow, 1) := dk_at k_dX5_preset_70 (i := 2) rfl
theorem dX5_preset_76 : decode cX5_preset 76 = .ok (.aload_n 0, 1) := dk_at k_dX5_preset_70 (i := 3) rfl
theorem dX5_preset_77 : decode cX5_preset 77 = .ok (.iconst 5, 1) := dk_at k_dX5_preset_70 (i := 4) rfl
theorem dX5_preset_78 : decode cX5_preset 78 = .ok (.iload_n 1, 1) := dk_at k_dX5_preset_70 (i := 5) rfl
theorem dX5_preset_79 : decode cX5_preset 79 = .ok (.iload_n 2, 1) := dk_at k_dX5_preset_70 (i := 6) rfl
theorem dX5_preset_80 : decode cX5_preset 80 = .ok (.iload_n 3, 1) := dk_at k_dX5_preset_70 (i := 7) rfl
theorem dX5_preset_81 : decode cX5_preset 81 = .ok (.iload 4, 2) := dk_at k_dX5_preset_70 (i := 8) rfl
theorem dX5_preset_83 : decode cX5_preset 83 = .ok (.invokevirtual 77, 3) := dk_at k_dX5_preset_70 (i := 9) rfl
theorem dX5_preset_86 : decode cX5_preset 86 = .ok (.ireturn, 1) := dk_at k_dX5_preset_70 (i := 10) rfl
theorem k_dX5_approve_0 : dk cX5_approve [(0, .aload_n 0, 1), (1, .iload_n 1, 1), (2, .invokevirtual 92, 3), (5, .ifCond .ne 13, 3), (8, .new 65, 3), (11, .dup, 1), (12, .ldc 95, 2), (14, .invokespecial 69, 3), (17, .athrow, 1), (18, .aload_n 0, 1), (19, .getfield 10, 3), (22, .getfield 97, 3), (25, .iload_n 1, 1), (26, .iload_n 2, 1), (27, .bastore, 1), (28, .aload_n 0, 1), (29, .getfield 21, 3), (32, .invokevirtual 59, 3), (35, .aload_n 0, 1), (36, .getfield 10, 3), (39, .iload_n 1, 1), (40, .invokevirtual 101, 3), (43, .ireturn, 1)] = true := by decide +kernel
theorem dX5_approve_0 : decode cX5_approve 0 = .ok (.aload_n 0, 1) := dk_at k_dX5_approve_0 (i := 0) rfl
theorem dX5_approve_1 : decode cX5_approve 1 = .ok (.iload_n 1, 1) := dk_at k_dX5_approve_0 (i := 1) rfl
theorem dX5_approve_2 : decode cX5_approve 2 = .ok (.invokevirtual 92, 3) := dk_at k_dX5_approve_0 (i := 2) rfl
theorem dX5_approve_5 : decode cX5_approve 5 = .ok (.ifCond .ne 13, 3) := dk_at k_dX5_approve_0 (i := 3) rfl
theorem dX5_approve_8 : decode cX5_approve 8 = .ok (.new 65, 3) := dk_at k_dX5_approve_0 (i := 4) rfl
theorem dX5_approve_11 : decode cX5_approve 11 = .ok (.dup, 1) := dk_at k_dX5_approve_0 (i := 5) rfl
theorem dX5_approve_12 : decode cX5_approve 12 = .ok (.ldc 95, 2) := dk_at k_dX5_approve_0 (i := 6) rfl
theorem dX5_approve_14 : decode cX5_approve 14 = .ok (.invokespecial 69, 3) := dk_at k_dX5_approve_0 (i := 7) rfl
theorem dX5_approve_17 : decode cX5_approve 17 = .ok (.athrow, 1) := dk_at k_dX5_approve_0 (i := 8) rfl
theorem dX5_approve_18 : decode cX5_approve 18 = .ok (.aload_n 0, 1) := dk_at k_dX5_approve_0 (i := 9) rfl
theorem dX5_approve_19 : decode cX5_approve 19 = .ok (.getfield 10, 3) := dk_at k_dX5_approve_0 (i := 10) rfl
theorem dX5_approve_22 : decode cX5_approve 22 = .ok (.getfield 97, 3) := dk_at k_dX5_approve_0 (i := 11) rfl
theorem dX5_approve_25 : decode cX5_approve 25 = .ok (.iload_n 1, 1) := dk_at k_dX5_approve_0 (i := 12) rfl
theorem dX5_approve_26 : decode cX5_approve 26 = .ok (.iload_n 2, 1) := dk_at k_dX5_approve_0 (i := 13) rfl
theorem dX5_approve_27 : decode cX5_approve 27 = .ok (.bastore, 1) := dk_at k_dX5_approve_0 (i := 14) rfl
theorem dX5_approve_28 : decode cX5_approve 28 = .ok (.aload_n 0, 1) := dk_at k_dX5_approve_0 (i := 15) rfl
theorem dX5_approve_29 : decode cX5_approve 29 = .ok (.getfield 21, 3) := dk_at k_dX5_approve_0 (i := 16) rfl
theorem dX5_approve_32 : decode cX5_approve 32 = .ok (.invokevirtual 59, 3) := dk_at k_dX5_approve_0 (i := 17) rfl
theorem dX5_approve_35 : decode cX5_approve 35 = .ok (.aload_n 0, 1) := dk_at k_dX5_approve_0 (i := 18) rfl
theorem dX5_approve_36 : decode cX5_approve 36 = .ok (.getfield 10, 3) := dk_at k_dX5_approve_0 (i := 19) rfl
theorem dX5_approve_39 : decode cX5_approve 39 = .ok (.iload_n 1, 1) := dk_at k_dX5_approve_0 (i := 20) rfl
theorem dX5_approve_40 : decode cX5_approve 40 = .ok (.invokevirtual 101, 3) := dk_at k_dX5_approve_0 (i := 21) rfl
theorem dX5_approve_43 : decode cX5_approve 43 = .ok (.ireturn, 1) := dk_at k_dX5_approve_0 (i := 22) rfl
theorem k_dX5_withdraw_0 : dk cX5_withdraw [(0, .aload_n 0, 1), (1, .iload_n 1, 1), (2, .invokevirtual 92, 3), (5, .ifCond .ne 13, 3), (8, .new 65, 3), (11, .dup, 1), (12, .ldc 95, 2), (14, .invokespecial 69, 3), (17, .athrow, 1), (18, .aload_n 0, 1), (19, .getfield 10, 3), (22, .getfield 104, 3), (25, .iload_n 1, 1), (26, .iload_n 2, 1), (27, .bastore, 1), (28, .aload_n 0, 1), (29, .getfield 21, 3), (32, .invokevirtual 59, 3), (35, .aload_n 0, 1), (36, .getfield 10, 3), (39, .iload_n 1, 1), (40, .invokevirtual 101, 3), (43, .ireturn, 1)] = true := by decide +kernel
theorem dX5_withdraw_0 : decode cX5_withdraw 0 = .ok (.aload_n 0, 1) := dk_at k_dX5_withdraw_0 (i := 0) rfl
theorem dX5_withdraw_1 : decode cX5_withdraw 1 = .ok (.iload_n 1, 1) := dk_at k_dX5_withdraw_0 (i := 1) rfl
theorem dX5_withdraw_2 : decode cX5_withdraw 2 = .ok (.invokevirtual 92, 3) := dk_at k_dX5_withdraw_0 (i := 2) rfl
theorem dX5_withdraw_5 : decode cX5_withdraw 5 = .ok (.ifCond .ne 13, 3) := dk_at k_dX5_withdraw_0 (i := 3) rfl
theorem dX5_withdraw_8 : decode cX5_withdraw 8 = .ok (.new 65, 3) := dk_at k_dX5_withdraw_0 (i := 4) rfl
theorem dX5_withdraw_11 : decode cX5_withdraw 11 = .ok (.dup, 1) := dk_at k_dX5_withdraw_0 (i := 5) rfl
theorem dX5_withdraw_12 : decode cX5_withdraw 12 = .ok (.ldc 95, 2) := dk_at k_dX5_withdraw_0 (i := 6) rfl
theorem dX5_withdraw_14 : decode cX5_withdraw 14 = .ok (.invokespecial 69, 3) := dk_at k_dX5_withdraw_0 (i := 7) rfl
theorem dX5_withdraw_17 : decode cX5_withdraw 17 = .ok (.athrow, 1) := dk_at k_dX5_withdraw_0 (i := 8) rfl
theorem dX5_withdraw_18 : decode cX5_withdraw 18 = .ok (.aload_n 0, 1) := dk_at k_dX5_withdraw_0 (i := 9) rfl
theorem dX5_withdraw_19 : decode cX5_withdraw 19 = .ok (.getfield 10, 3) := dk_at k_dX5_withdraw_0 (i := 10) rfl
theorem dX5_withdraw_22 : decode cX5_withdraw 22 = .ok (.getfield 104, 3) := dk_at k_dX5_withdraw_0 (i := 11) rfl
theorem dX5_withdraw_25 : decode cX5_withdraw 25 = .ok (.iload_n 1, 1) := dk_at k_dX5_withdraw_0 (i := 12) rfl
theorem dX5_withdraw_26 : decode cX5_withdraw 26 = .ok (.iload_n 2, 1) := dk_at k_dX5_withdraw_0 (i := 13) rfl
theorem dX5_withdraw_27 : decode cX5_withdraw 27 = .ok (.bastore, 1) := dk_at k_dX5_withdraw_0 (i := 14) rfl
theorem dX5_withdraw_28 : decode cX5_withdraw 28 = .ok (.aload_n 0, 1) := dk_at k_dX5_withdraw_0 (i := 15) rfl
theorem dX5_withdraw_29 : decode cX5_withdraw 29 = .ok (.getfield 21, 3) := dk_at k_dX5_withdraw_0 (i := 16) rfl
theorem dX5_withdraw_32 : decode cX5_withdraw 32 = .ok (.invokevirtual 59, 3) := dk_at k_dX5_withdraw_0 (i := 17) rfl
theorem dX5_withdraw_35 : decode cX5_withdraw 35 = .ok (.aload_n 0, 1) := dk_at k_dX5_withdraw_0 (i := 18) rfl
theorem dX5_withdraw_36 : decode cX5_withdraw 36 = .ok (.getfield 10, 3) := dk_at k_dX5_withdraw_0 (i := 19) rfl
theorem dX5_withdraw_39 : decode cX5_withdraw 39 = .ok (.iload_n 1, 1) := dk_at k_dX5_withdraw_0 (i := 20) rfl
theorem dX5_withdraw_40 : decode cX5_withdraw 40 = .ok (.invokevirtual 101, 3) := dk_at k_dX5_withdraw_0 (i := 21) rfl
theorem dX5_withdraw_43 : decode cX5_withdraw 43 = .ok (.ireturn, 1) := dk_at k_dX5_withdraw_0 (i := 22) rfl
theorem k_dX5_weight_0 : dk cX5_weight [(0, .aload_n 0, 1), (1, .iload_n 1, 1), (2, .invokevirtual 62, 3), (5, .ifCond .ne 13, 3), (8, .new 65, 3), (11, .dup, 1), (12, .ldc 67, 2), (14, .invokespecial 69, 3), (17, .athrow, 1), (18, .iload_n 2, 1), (19, .ifCond .lt 9, 3), (22, .iload_n 2, 1), (23, .bipush 9, 2), (25, .if_icmp .le 13, 3), (28, .new 40, 3), (31, .dup, 1), (32, .ldc 107, 2), (34, .invokespecial 44, 3), (37, .athrow, 1), (38, .aload_n 0, 1), (39, .getfield 10, 3), (42, .getfield 109, 3), (45, .iload_n 1, 1), (46, .iaload, 1), (47, .istore_n 3, 1), (48, .aload_n 0, 1), (49, .getfield 10, 3), (52, .getfield 109, 3), (55, .iload_n 1, 1), (56, .iload_n 2, 1), (57, .iastore, 1), (58, .aload_n 0, 1)] = true := by decide +kernel
theorem dX5_weight_0 : decode cX5_weight 0 = .ok (.aload_n 0, 1) := dk_at k_dX5_weight_0 (i := 0) rfl
theorem dX5_weight_1 : decode cX5_weight 1 = .ok (.iload_n 1, 1) := dk_at k_dX5_weight_0 (i := 1) rfl
theorem dX5_weight_2 : decode cX5_weight 2 = .ok (.invokevirtual 62, 3) := dk_at k_dX5_weight_0 (i := 2) rfl
theorem dX5_weight_5 : decode cX5_weight 5 = .ok (.ifCond .ne 13, 3) := dk_at k_dX5_weight_0 (i := 3) rfl
theorem dX5_weight_8 : decode cX5_weight 8 = .ok (.new 65, 3) := dk_at k_dX5_weight_0 (i := 4) rfl
theorem dX5_weight_11 : decode cX5_weight 11 = .ok (.dup, 1) := dk_at k_dX5_weight_0 (i := 5) rfl
theorem dX5_weight_12 : decode cX5_weight 12 = .ok (.ldc 67, 2) := dk_at k_dX5_weight_0 (i := 6) rfl
theorem dX5_weight_14 : decode cX5_weight 14 = .ok (.invokespecial 69, 3) := dk_at k_dX5_weight_0 (i := 7) rfl
theorem dX5_weight_17 : decode cX5_weight 17 = .ok (.athrow, 1) := dk_at k_dX5_weight_0 (i := 8) rfl
theorem dX5_weight_18 : decode cX5_weight 18 = .ok (.iload_n 2, 1) := dk_at k_dX5_weight_0 (i := 9) rfl
theorem dX5_weight_19 : decode cX5_weight 19 = .ok (.ifCond .lt 9, 3) := dk_at k_dX5_weight_0 (i := 10) rfl
theorem dX5_weight_22 : decode cX5_weight 22 = .ok (.iload_n 2, 1) := dk_at k_dX5_weight_0 (i := 11) rfl
theorem dX5_weight_23 : decode cX5_weight 23 = .ok (.bipush 9, 2) := dk_at k_dX5_weight_0 (i := 12) rfl
theorem dX5_weight_25 : decode cX5_weight 25 = .ok (.if_icmp .le 13, 3) := dk_at k_dX5_weight_0 (i := 13) rfl
theorem dX5_weight_28 : decode cX5_weight 28 = .ok (.new 40, 3) := dk_at k_dX5_weight_0 (i := 14) rfl
theorem dX5_weight_31 : decode cX5_weight 31 = .ok (.dup, 1) := dk_at k_dX5_weight_0 (i := 15) rfl
theorem dX5_weight_32 : decode cX5_weight 32 = .ok (.ldc 107, 2) := dk_at k_dX5_weight_0 (i := 16) rfl
theorem dX5_weight_34 : decode cX5_weight 34 = .ok (.invokespecial 44, 3) := dk_at k_dX5_weight_0 (i := 17) rfl
theorem dX5_weight_37 : decode cX5_weight 37 = .ok (.athrow, 1) := dk_at k_dX5_weight_0 (i := 18) rfl
theorem dX5_weight_38 : decode cX5_weight 38 = .ok (.aload_n 0, 1) := dk_at k_dX5_weight_0 (i := 19) rfl
theorem dX5_weight_39 : decode cX5_weight 39 = .ok (.getfield 10, 3) := dk_at k_dX5_weight_0 (i := 20) rfl
theorem dX5_weight_42 : decode cX5_weight 42 = .ok (.getfield 109, 3) := dk_at k_dX5_weight_0 (i := 21) rfl
theorem dX5_weight_45 : decode cX5_weight 45 = .ok (.iload_n 1, 1) := dk_at k_dX5_weight_0 (i := 22) rfl
theorem dX5_weight_46 : decode cX5_weight 46 = .ok (.iaload, 1) := dk_at k_dX5_weight_0 (i := 23) rfl
theorem dX5_weight_47 : decode cX5_weight 47 = .ok (.istore_n 3, 1) := dk_at k_dX5_weight_0 (i := 24) rfl
theorem dX5_weight_48 : decode cX5_weight 48 = .ok (.aload_n 0, 1) := dk_at k_dX5_weight_0 (i := 25) rfl
theorem dX5_weight_49 : decode cX5_weight 49 = .ok (.getfield 10, 3) := dk_at k_dX5_weight_0 (i := 26) rfl
theorem dX5_weight_52 : decode cX5_weight 52 = .ok (.getfield 109, 3) := dk_at k_dX5_weight_0 (i := 27) rfl
theorem dX5_weight_55 : decode cX5_weight 55 = .ok (.iload_n 1, 1) := dk_at k_dX5_weight_0 (i := 28) rfl
theorem dX5_weight_56 : decode cX5_weight 56 = .ok (.iload_n 2, 1) := dk_at k_dX5_weight_0 (i := 29) rfl
theorem dX5_weight_57 : decode cX5_weight 57 = .ok (.iastore, 1) := dk_at k_dX5_weight_0 (i := 30) rfl
theorem dX5_weight_58 : decode cX5_weight 58 = .ok (.aload_n 0, 1) := dk_at k_dX5_weight_0 (i := 31) rfl
theorem k_dX5_weight_59 : dk cX5_weight [(59, .getfield 21, 3), (62, .invokevirtual 59, 3), (65, .iload_n 3, 1), (66, .ireturn, 1)] = true := by decide +kernel
theorem dX5_weight_59 : decode cX5_weight 59 = .ok (.getfield 21, 3) := dk_at k_dX5_weight_59 (i := 0) rfl
theorem dX5_weight_62 : decode cX5_weight 62 = .ok (.invokevirtual 59, 3) := dk_at k_dX5_weight_59 (i := 1) rfl
theorem dX5_weight_65 : decode cX5_weight 65 = .ok (.iload_n 3, 1) := dk_at k_dX5_weight_59 (i := 2) rfl
theorem dX5_weight_66 : decode cX5_weight 66 = .ok (.ireturn, 1) := dk_at k_dX5_weight_59 (i := 3) rfl
theorem k_dX5_commit_0 : dk cX5_commit [(0, .aload_n 0, 1), (1, .getfield 21, 3), (4, .getfield 113, 3), (7, .getfield 117, 3), (10, .ifCond .ne 15, 3), (13, .aload_n 0, 1), (14, .getfield 28, 3), (17, .getfield 123, 3), (20, .bipush 12, 2), (22, .if_icmp .lt 13, 3), (25, .new 50, 3), (28, .dup, 1), (29, .ldc 126, 2), (31, .invokespecial 54, 3), (34, .athrow, 1), (35, .aload_n 0, 1), (36, .getfield 28, 3), (39, .aload_n 0, 1), (40, .getfield 21, 3), (43, .getfield 128, 3), (46, .invokevirtual 131, 3), (49, .ireturn, 1)] = true := by decide +kernel
theorem dX5_commit_0 : decode cX5_commit 0 = .ok (.aload_n 0, 1) := dk_at k_dX5_commit_0 (i := 0) rfl
theorem dX5_commit_1 : decode cX5_commit 1 = .ok (.getfield 21, 3) := dk_at k_dX5_commit_0 (i := 1) rfl
theorem dX5_commit_4 : decode cX5_commit 4 = .ok (.getfield 113, 3) := dk_at k_dX5_commit_0 (i := 2) rfl
theorem dX5_commit_7 : decode cX5_commit 7 = .ok (.getfield 117, 3) := dk_at k_dX5_commit_0 (i := 3) rfl
theorem dX5_commit_10 : decode cX5_commit 10 = .ok (.ifCond .ne 15, 3) := dk_at k_dX5_commit_0 (i := 4) rfl
theorem dX5_commit_13 : decode cX5_commit 13 = .ok (.aload_n 0, 1) := dk_at k_dX5_commit_0 (i := 5) rfl
theorem dX5_commit_14 : decode cX5_commit 14 = .ok (.getfield 28, 3) := dk_at k_dX5_commit_0 (i := 6) rfl
theorem dX5_commit_17 : decode cX5_commit 17 = .ok (.getfield 123, 3) := dk_at k_dX5_commit_0 (i := 7) rfl
theorem dX5_commit_20 : decode cX5_commit 20 = .ok (.bipush 12, 2) := dk_at k_dX5_commit_0 (i := 8) rfl
theorem dX5_commit_22 : decode cX5_commit 22 = .ok (.if_icmp .lt 13, 3) := dk_at k_dX5_commit_0 (i := 9) rfl
theorem dX5_commit_25 : decode cX5_commit 25 = .ok (.new 50, 3) := dk_at k_dX5_commit_0 (i := 10) rfl
theorem dX5_commit_28 : decode cX5_commit 28 = .ok (.dup, 1) := dk_at k_dX5_commit_0 (i := 11) rfl
theorem dX5_commit_29 : decode cX5_commit 29 = .ok (.ldc 126, 2) := dk_at k_dX5_commit_0 (i := 12) rfl
theorem dX5_commit_31 : decode cX5_commit 31 = .ok (.invokespecial 54, 3) := dk_at k_dX5_commit_0 (i := 13) rfl
theorem dX5_commit_34 : decode cX5_commit 34 = .ok (.athrow, 1) := dk_at k_dX5_commit_0 (i := 14) rfl
theorem dX5_commit_35 : decode cX5_commit 35 = .ok (.aload_n 0, 1) := dk_at k_dX5_commit_0 (i := 15) rfl
theorem dX5_commit_36 : decode cX5_commit 36 = .ok (.getfield 28, 3) := dk_at k_dX5_commit_0 (i := 16) rfl
theorem dX5_commit_39 : decode cX5_commit 39 = .ok (.aload_n 0, 1) := dk_at k_dX5_commit_0 (i := 17) rfl
theorem dX5_commit_40 : decode cX5_commit 40 = .ok (.getfield 21, 3) := dk_at k_dX5_commit_0 (i := 18) rfl
theorem dX5_commit_43 : decode cX5_commit 43 = .ok (.getfield 128, 3) := dk_at k_dX5_commit_0 (i := 19) rfl
theorem dX5_commit_46 : decode cX5_commit 46 = .ok (.invokevirtual 131, 3) := dk_at k_dX5_commit_0 (i := 20) rfl
theorem dX5_commit_49 : decode cX5_commit 49 = .ok (.ireturn, 1) := dk_at k_dX5_commit_0 (i := 21) rfl
theorem k_dX5_wave_0 : dk cX5_wave [(0, .aload_n 0, 1), (1, .iload_n 1, 1), (2, .invokevirtual 135, 3), (5, .ifCond .ne 13, 3), (8, .new 65, 3), (11, .dup, 1), (12, .ldc 138, 2), (14, .invokespecial 69, 3), (17, .athrow, 1), (18, .iload_n 2, 1), (19, .ifCond .lt 9, 3), (22, .iload_n 2, 1), (23, .bipush 63, 2), (25, .if_icmp .le 13, 3), (28, .new 40, 3), (31, .dup, 1), (32, .ldc 140, 2), (34, .invokespecial 44, 3), (37, .athrow, 1), (38, .iconst 0, 1), (39, .istore_n 3, 1), (40, .iconst 0, 1), (41, .istore 4, 2), (43, .iload 4, 2), (45, .bipush 6, 2), (47, .if_icmp .ge 34, 3), (50, .iload_n 2, 1), (51, .iload 4, 2), (53, .invokestatic 142, 3), (56, .ifCond .eq 19, 3), (59, .aload_n 0, 1), (60, .getfield 28, 3)] = true := by decide +kernel
theorem dX5_wave_0 : decode cX5_wave 0 = .ok (.aload_n 0, 1) := dk_at k_dX5_wave_0 (i := 0) rfl
theorem dX5_wave_1 : decode cX5_wave 1 = .ok (.iload_n 1, 1) := dk_at k_dX5_wave_0 (i := 1) rfl
theorem dX5_wave_2 : decode cX5_wave 2 = .ok (.invokevirtual 135, 3) := dk_at k_dX5_wave_0 (i := 2) rfl
theorem dX5_wave_5 : decode cX5_wave 5 = .ok (.ifCond .ne 13, 3) := dk_at k_dX5_wave_0 (i := 3) rfl
theorem dX5_wave_8 : decode cX5_wave 8 = .ok (.new 65, 3) := dk_at k_dX5_wave_0 (i := 4) rfl
theorem dX5_wave_11 : decode cX5_wave 11 = .ok (.dup, 1) := dk_at k_dX5_wave_0 (i := 5) rfl
theorem dX5_wave_12 : decode cX5_wave 12 = .ok (.ldc 138, 2) := dk_at k_dX5_wave_0 (i := 6) rfl
theorem dX5_wave_14 : decode cX5_wave 14 = .ok (.invokespecial 69, 3) := dk_at k_dX5_wave_0 (i := 7) rfl
theorem dX5_wave_17 : decode cX5_wave 17 = .ok (.athrow, 1) := dk_at k_dX5_wave_0 (i := 8) rfl
theorem dX5_wave_18 : decode cX5_wave 18 = .ok (.iload_n 2, 1) := dk_at k_dX5_wave_0 (i := 9) rfl
theorem dX5_wave_19 : decode cX5_wave 19 = .ok (.ifCond .lt 9, 3) := dk_at k_dX5_wave_0 (i := 10) rfl
theorem dX5_wave_22 : decode cX5_wave 22 = .ok (.iload_n 2, 1) := dk_at k_dX5_wave_0 (i := 11) rfl
theorem dX5_wave_23 : decode cX5_wave 23 = .ok (.bipush 63, 2) := dk_at k_dX5_wave_0 (i := 12) rfl
theorem dX5_wave_25 : decode cX5_wave 25 = .ok (.if_icmp .le 13, 3) := dk_at k_dX5_wave_0 (i := 13) rfl
theorem dX5_wave_28 : decode cX5_wave 28 = .ok (.new 40, 3) := dk_at k_dX5_wave_0 (i := 14) rfl
theorem dX5_wave_31 : decode cX5_wave 31 = .ok (.dup, 1) := dk_at k_dX5_wave_0 (i := 15) rfl
theorem dX5_wave_32 : decode cX5_wave 32 = .ok (.ldc 140, 2) := dk_at k_dX5_wave_0 (i := 16) rfl
theorem dX5_wave_34 : decode cX5_wave 34 = .ok (.invokespecial 44, 3) := dk_at k_dX5_wave_0 (i := 17) rfl
theorem dX5_wave_37 : decode cX5_wave 37 = .ok (.athrow, 1) := dk_at k_dX5_wave_0 (i := 18) rfl
theorem dX5_wave_38 : decode cX5_wave 38 = .ok (.iconst 0, 1) := dk_at k_dX5_wave_0 (i := 19) rfl
theorem dX5_wave_39 : decode cX5_wave 39 = .ok (.istore_n 3, 1) := dk_at k_dX5_wave_0 (i := 20) rfl
theorem dX5_wave_40 : decode cX5_wave 40 = .ok (.iconst 0, 1) := dk_at k_dX5_wave_0 (i := 21) rfl
theorem dX5_wave_41 : decode cX5_wave 41 = .ok (.istore 4, 2) := dk_at k_dX5_wave_0 (i := 22) rfl
theorem dX5_wave_43 : decode cX5_wave 43 = .ok (.iload 4, 2) := dk_at k_dX5_wave_0 (i := 23) rfl
theorem dX5_wave_45 : decode cX5_wave 45 = .ok (.bipush 6, 2) := dk_at k_dX5_wave_0 (i := 24) rfl
theorem dX5_wave_47 : decode cX5_wave 47 = .ok (.if_icmp .ge 34, 3) := dk_at k_dX5_wave_0 (i := 25) rfl
theorem dX5_wave_50 : decode cX5_wave 50 = .ok (.iload_n 2, 1) := dk_at k_dX5_wave_0 (i := 26) rfl
theorem dX5_wave_51 : decode cX5_wave 51 = .ok (.iload 4, 2) := dk_at k_dX5_wave_0 (i := 27) rfl
theorem dX5_wave_53 : decode cX5_wave 53 = .ok (.invokestatic 142, 3) := dk_at k_dX5_wave_0 (i := 28) rfl
theorem dX5_wave_56 : decode cX5_wave 56 = .ok (.ifCond .eq 19, 3) := dk_at k_dX5_wave_0 (i := 29) rfl
theorem dX5_wave_59 : decode cX5_wave 59 = .ok (.aload_n 0, 1) := dk_at k_dX5_wave_0 (i := 30) rfl
theorem dX5_wave_60 : decode cX5_wave 60 = .ok (.getfield 28, 3) := dk_at k_dX5_wave_0 (i := 31) rfl
theorem k_dX5_wave_63 : dk cX5_wave [(63, .iload 4, 2), (65, .iload_n 1, 1), (66, .invokevirtual 146, 3), (69, .ifCond .eq 6, 3), (72, .iinc 3 1, 3), (75, .iinc 4 1, 3), (78, .goto (-35), 3), (81, .iload_n 3, 1), (82, .ireturn, 1)] = true := by decide +kernel
theorem dX5_wave_63 : decode cX5_wave 63 = .ok (.iload 4, 2) := dk_at k_dX5_wave_63 (i := 0) rfl
theorem dX5_wave_65 : decode cX5_wave 65 = .ok (.iload_n 1, 1) := dk_at k_dX5_wave_63 (i := 1) rfl
theorem dX5_wave_66 : decode cX5_wave 66 = .ok (.invokevirtual 146, 3) := dk_at k_dX5_wave_63 (i := 2) rfl
theorem dX5_wave_69 : decode cX5_wave 69 = .ok (.ifCond .eq 6, 3) := dk_at k_dX5_wave_63 (i := 3) rfl
theorem dX5_wave_72 : decode cX5_wave 72 = .ok (.iinc 3 1, 3) := dk_at k_dX5_wave_63 (i := 4) rfl
theorem dX5_wave_75 : decode cX5_wave 75 = .ok (.iinc 4 1, 3) := dk_at k_dX5_wave_63 (i := 5) rfl
theorem dX5_wave_78 : decode cX5_wave 78 = .ok (.goto (-35), 3) := dk_at k_dX5_wave_63 (i := 6) rfl
theorem dX5_wave_81 : decode cX5_wave 81 = .ok (.iload_n 3, 1) := dk_at k_dX5_wave_63 (i := 7) rfl
theorem dX5_wave_82 : decode cX5_wave 82 = .ok (.ireturn, 1) := dk_at k_dX5_wave_63 (i := 8) rfl
theorem k_dX5_patch_0 : dk cX5_patch [(0, .iload_n 1, 1), (1, .invokestatic 149, 3), (4, .ifCond .eq 11, 3), (7, .aload_n 0, 1), (8, .iload_n 2, 1), (9, .invokevirtual 62, 3), (12, .ifCond .ne 13, 3), (15, .new 65, 3), (18, .dup, 1), (19, .ldc 152, 2), (21, .invokespecial 69, 3), (24, .athrow, 1), (25, .iload_n 3, 1), (26, .invokestatic 81, 3), (29, .ifCond .ne 13, 3), (32, .new 40, 3), (35, .dup, 1), (36, .ldc 154, 2), (38, .invokespecial 44, 3), (41, .athrow, 1), (42, .aload_n 0, 1), (43, .getfield 28, 3), (46, .getfield 156, 3), (49, .iload_n 1, 1), (50, .aaload, 1), (51, .iload_n 2, 1), (52, .iaload, 1), (53, .istore 4, 2), (55, .aload_n 0, 1), (56, .getfield 28, 3), (59, .getfield 156, 3), (62, .iload_n 1, 1)] = true := by decide +kernel
theorem dX5_patch_0 : decode cX5_patch 0 = .ok (.iload_n 1, 1) := dk_at k_dX5_patch_0 (i := 0) rfl
theorem dX5_patch_1 : decode cX5_patch 1 = .ok (.invokestatic 149, 3) := dk_at k_dX5_patch_0 (i := 1) rfl
theorem dX5_patch_4 : decode cX5_patch 4 = .ok (.ifCond .eq 11, 3) := dk_at k_dX5_patch_0 (i := 2) rfl
theorem dX5_patch_7 : decode cX5_patch 7 = .ok (.aload_n 0, 1) := dk_at k_dX5_patch_0 (i := 3) rfl
theorem dX5_patch_8 : decode cX5_patch 8 = .ok (.iload_n 2, 1) := dk_at k_dX5_patch_0 (i := 4) rfl
theorem dX5_patch_9 : decode cX5_patch 9 = .ok (.invokevirtual 62, 3) := dk_at k_dX5_patch_0 (i := 5) rfl
theorem dX5_patch_12 : decode cX5_patch 12 = .ok (.ifCond .ne 13, 3) := dk_at k_dX5_patch_0 (i := 6) rfl
theorem dX5_patch_15 : decode cX5_patch 15 = .ok (.new 65, 3) := dk_at k_dX5_patch_0 (i := 7) rfl
theorem dX5_patch_18 : decode cX5_patch 18 = .ok (.dup, 1) := dk_at k_dX5_patch_0 (i := 8) rfl
theorem dX5_patch_19 : decode cX5_patch 19 = .ok (.ldc 152, 2) := dk_at k_dX5_patch_0 (i := 9) rfl
theorem dX5_patch_21 : decode cX5_patch 21 = .ok (.invokespecial 69, 3) := dk_at k_dX5_patch_0 (i := 10) rfl
theorem dX5_patch_24 : decode cX5_patch 24 = .ok (.athrow, 1) := dk_at k_dX5_patch_0 (i := 11) rfl
theorem dX5_patch_25 : decode cX5_patch 25 = .ok (.iload_n 3, 1) := dk_at k_dX5_patch_0 (i := 12) rfl
theorem dX5_patch_26 : decode cX5_patch 26 = .ok (.invokestatic 81, 3) := dk_at k_dX5_patch_0 (i := 13) rfl
theorem dX5_patch_29 : decode cX5_patch 29 = .ok (.ifCond .ne 13, 3) := dk_at k_dX5_patch_0 (i := 14) rfl
theorem dX5_patch_32 : decode cX5_patch 32 = .ok (.new 40, 3) := dk_at k_dX5_patch_0 (i := 15) rfl
theorem dX5_patch_35 : decode cX5_patch 35 = .ok (.dup, 1) := dk_at k_dX5_patch_0 (i := 16) rfl
theorem dX5_patch_36 : decode cX5_patch 36 = .ok (.ldc 154, 2) := dk_at k_dX5_patch_0 (i := 17) rfl
theorem dX5_patch_38 : decode cX5_patch 38 = .ok (.invokespecial 44, 3) := dk_at k_dX5_patch_0 (i := 18) rfl
theorem dX5_patch_41 : decode cX5_patch 41 = .ok (.athrow, 1) := dk_at k_dX5_patch_0 (i := 19) rfl
theorem dX5_patch_42 : decode cX5_patch 42 = .ok (.aload_n 0, 1) := dk_at k_dX5_patch_0 (i := 20) rfl
theorem dX5_patch_43 : decode cX5_patch 43 = .ok (.getfield 28, 3) := dk_at k_dX5_patch_0 (i := 21) rfl
theorem dX5_patch_46 : decode cX5_patch 46 = .ok (.getfield 156, 3) := dk_at k_dX5_patch_0 (i := 22) rfl
theorem dX5_patch_49 : decode cX5_patch 49 = .ok (.iload_n 1, 1) := dk_at k_dX5_patch_0 (i := 23) rfl
theorem dX5_patch_50 : decode cX5_patch 50 = .ok (.aaload, 1) := dk_at k_dX5_patch_0 (i := 24) rfl
theorem dX5_patch_51 : decode cX5_patch 51 = .ok (.iload_n 2, 1) := dk_at k_dX5_patch_0 (i := 25) rfl
theorem dX5_patch_52 : decode cX5_patch 52 = .ok (.iaload, 1) := dk_at k_dX5_patch_0 (i := 26) rfl
theorem dX5_patch_53 : decode cX5_patch 53 = .ok (.istore 4, 2) := dk_at k_dX5_patch_0 (i := 27) rfl
theorem dX5_patch_55 : decode cX5_patch 55 = .ok (.aload_n 0, 1) := dk_at k_dX5_patch_0 (i := 28) rfl
theorem dX5_patch_56 : decode cX5_patch 56 = .ok (.getfield 28, 3) := dk_at k_dX5_patch_0 (i := 29) rfl
theorem dX5_patch_59 : decode cX5_patch 59 = .ok (.getfield 156, 3) := dk_at k_dX5_patch_0 (i := 30) rfl
theorem dX5_patch_62 : decode cX5_patch 62 = .ok (.iload_n 1, 1) := dk_at k_dX5_patch_0 (i := 31) rfl
theorem k_dX5_patch_63 : dk cX5_patch [(63, .aaload, 1), (64, .iload_n 2, 1), (65, .iload_n 3, 1), (66, .iastore, 1), (67, .iload 4, 2), (69, .ireturn, 1)] = true := by decide +kernel
theorem dX5_patch_63 : decode cX5_patch 63 = .ok (.aaload, 1) := dk_at k_dX5_patch_63 (i := 0) rfl
theorem dX5_patch_64 : decode cX5_patch 64 = .ok (.iload_n 2, 1) := dk_at k_dX5_patch_63 (i := 1) rfl
theorem dX5_patch_65 : decode cX5_patch 65 = .ok (.iload_n 3, 1) := dk_at k_dX5_patch_63 (i := 2) rfl
theorem dX5_patch_66 : decode cX5_patch 66 = .ok (.iastore, 1) := dk_at k_dX5_patch_63 (i := 3) rfl
theorem dX5_patch_67 : decode cX5_patch 67 = .ok (.iload 4, 2) := dk_at k_dX5_patch_63 (i := 4) rfl
theorem dX5_patch_69 : decode cX5_patch 69 = .ok (.ireturn, 1) := dk_at k_dX5_patch_63 (i := 5) rfl
theorem k_dX5_absorb_0 : dk cX5_absorb [(0, .iload_n 1, 1), (1, .invokestatic 149, 3), (4, .ifCond .eq 11, 3), (7, .aload_n 0, 1), (8, .iload_n 2, 1), (9, .invokevirtual 62, 3), (12, .ifCond .ne 13, 3), (15, .new 65, 3), (18, .dup, 1), (19, .ldc 152, 2), (21, .invokespecial 69, 3), (24, .athrow, 1), (25, .aload_n 0, 1), (26, .getfield 28, 3), (29, .getfield 156, 3), (32, .iload_n 1, 1), (33, .aaload, 1), (34, .iload_n 2, 1), (35, .iaload, 1), (36, .istore_n 3, 1), (37, .aload_n 0, 1), (38, .getfield 28, 3), (41, .iload_n 1, 1), (42, .iload_n 2, 1), (43, .invokevirtual 160, 3), (46, .ifCond .eq 22, 3), (49, .iload_n 3, 1), (50, .invokestatic 81, 3), (53, .ifCond .eq 15, 3), (56, .aload_n 0, 1), (57, .getfield 10, 3), (60, .getfield 72, 3)] = true := by decide +kernel
theorem dX5_absorb_0 : decode cX5_absorb 0 = .ok (.iload_n 1, 1) := dk_at k_dX5_absorb_0 (i := 0) rfl
theorem dX5_absorb_1 : decode cX5_absorb 1 = .ok (.invokestatic 149, 3) := dk_at k_dX5_absorb_0 (i := 1) rfl
theorem dX5_absorb_4 : decode cX5_absorb 4 = .ok (.ifCond .eq 11, 3) := dk_at k_dX5_absorb_0 (i := 2) rfl
theorem dX5_absorb_7 : decode cX5_absorb 7 = .ok (.aload_n 0, 1) := dk_at k_dX5_absorb_0 (i := 3) rfl
theorem dX5_absorb_8 : decode cX5_absorb 8 = .ok (.iload_n 2, 1) := dk_at k_dX5_absorb_0 (i := 4) rfl
theorem dX5_absorb_9 : decode cX5_absorb 9 = .ok (.invokevirtual 62, 3) := dk_at k_dX5_absorb_0 (i := 5) rfl
theorem dX5_absorb_12 : decode cX5_absorb 12 = .ok (.ifCond .ne 13, 3) := dk_at k_dX5_absorb_0 (i := 6) rfl
theorem dX5_absorb_15 : decode cX5_absorb 15 = .ok (.new 65, 3) := dk_at k_dX5_absorb_0 (i := 7) rfl
theorem dX5_absorb_18 : decode cX5_absorb 18 = .ok (.dup, 1) := dk_at k_dX5_absorb_0 (i := 8) rfl
theorem dX5_absorb_19 : decode cX5_absorb 19 = .ok (.ldc 152, 2) := dk_at k_dX5_absorb_0 (i := 9) rfl
theorem dX5_absorb_21 : decode cX5_absorb 21 = .ok (.invokespecial 69, 3) := dk_at k_dX5_absorb_0 (i := 10) rfl
theorem dX5_absorb_24 : decode cX5_absorb 24 = .ok (.athrow, 1) := dk_at k_dX5_absorb_0 (i := 11) rfl
theorem dX5_absorb_25 : decode cX5_absorb 25 = .ok (.aload_n 0, 1) := dk_at k_dX5_absorb_0 (i := 12) rfl
theorem dX5_absorb_26 : decode cX5_absorb 26 = .ok (.getfield 28, 3) := dk_at k_dX5_absorb_0 (i := 13) rfl
theorem dX5_absorb_29 : decode cX5_absorb 29 = .ok (.getfield 156, 3) := dk_at k_dX5_absorb_0 (i := 14) rfl
theorem dX5_absorb_32 : decode cX5_absorb 32 = .ok (.iload_n 1, 1) := dk_at k_dX5_absorb_0 (i := 15) rfl
theorem dX5_absorb_33 : decode cX5_absorb 33 = .ok (.aaload, 1) := dk_at k_dX5_absorb_0 (i := 16) rfl
theorem dX5_absorb_34 : decode cX5_absorb 34 = .ok (.iload_n 2, 1) := dk_at k_dX5_absorb_0 (i := 17) rfl
theorem dX5_absorb_35 : decode cX5_absorb 35 = .ok (.iaload, 1) := dk_at k_dX5_absorb_0 (i := 18) rfl
theorem dX5_absorb_36 : decode cX5_absorb 36 = .ok (.istore_n 3, 1) := dk_at k_dX5_absorb_0 (i := 19) rfl
theorem dX5_absorb_37 : decode cX5_absorb 37 = .ok (.aload_n 0, 1) := dk_at k_dX5_absorb_0 (i := 20) rfl
theorem dX5_absorb_38 : decode cX5_absorb 38 = .ok (.getfield 28, 3) := dk_at k_dX5_absorb_0 (i := 21) rfl
theorem dX5_absorb_41 : decode cX5_absorb 41 = .ok (.iload_n 1, 1) := dk_at k_dX5_absorb_0 (i := 22) rfl
theorem dX5_absorb_42 : decode cX5_absorb 42 = .ok (.iload_n 2, 1) := dk_at k_dX5_absorb_0 (i := 23) rfl
theorem dX5_absorb_43 : decode cX5_absorb 43 = .ok (.invokevirtual 160, 3) := dk_at k_dX5_absorb_0 (i := 24) rfl
theorem dX5_absorb_46 : decode cX5_absorb 46 = .ok (.ifCond .eq 22, 3) := dk_at k_dX5_absorb_0 (i := 25) rfl
theorem dX5_absorb_49 : decode cX5_absorb 49 = .ok (.iload_n 3, 1) := dk_at k_dX5_absorb_0 (i := 26) rfl
theorem dX5_absorb_50 : decode cX5_absorb 50 = .ok (.invokestatic 81, 3) := dk_at k_dX5_absorb_0 (i := 27) rfl
theorem dX5_absorb_53 : decode cX5_absorb 53 = .ok (.ifCond .eq 15, 3) := dk_at k_dX5_absorb_0 (i := 28) rfl
theorem dX5_absorb_56 : decode cX5_absorb 56 = .ok (.aload_n 0, 1) := dk_at k_dX5_absorb_0 (i := 29) rfl
theorem dX5_absorb_57 : decode cX5_absorb 57 = .ok (.getfield 10, 3) := dk_at k_dX5_absorb_0 (i := 30) rfl
theorem dX5_absorb_60 : decode cX5_absorb 60 = .ok (.getfield 72, 3) := dk_at k_dX5_absorb_0 (i := 31) rfl
theorem k_dX5_absorb_63 : dk cX5_absorb [(63, .bipush 30, 2), (65, .if_icmp .lt 13, 3), (68, .new 50, 3), (71, .dup, 1), (72, .ldc 163, 2), (74, .invokespecial 54, 3), (77, .athrow, 1), (78, .aload_n 0, 1), (79, .iconst 0, 1), (80, .aload_n 0, 1), (81, .getfield 10, 3), (84, .getfield 165, 3), (87, .iload_n 2, 1), (88, .iaload, 1), (89, .iload_n 2, 1), (90, .iconst 1, 1), (91, .iload_n 3, 1), (92, .ishl, 1), (93, .iconst 0, 1), (94, .invokevirtual 77, 3), (97, .ireturn, 1)] = true := by decide +kernel
theorem dX5_absorb_63 : decode cX5_absorb 63 = .ok (.bipush 30, 2) := dk_at k_dX5_absorb_63 (i := 0) rfl
theorem dX5_absorb_65 : decode cX5_absorb 65 = .ok (.if_icmp .lt 13, 3) := dk_at k_dX5_absorb_63 (i := 1) rfl
theorem dX5_absorb_68 : decode cX5_absorb 68 = .ok (.new 50, 3) := dk_at k_dX5_absorb_63 (i := 2) rfl
theorem dX5_absorb_71 : decode cX5_absorb 71 = .ok (.dup, 1) := dk_at k_dX5_absorb_63 (i := 3) rfl
theorem dX5_absorb_72 : decode cX5_absorb 72 = .ok (.ldc 163, 2) := dk_at k_dX5_absorb_63 (i := 4) rfl
theorem dX5_absorb_74 : decode cX5_absorb 74 = .ok (.invokespecial 54, 3) := dk_at k_dX5_absorb_63 (i := 5) rfl
theorem dX5_absorb_77 : decode cX5_absorb 77 = .ok (.athrow, 1) := dk_at k_dX5_absorb_63 (i := 6) rfl
theorem dX5_absorb_78 : decode cX5_absorb 78 = .ok (.aload_n 0, 1) := dk_at k_dX5_absorb_63 (i := 7) rfl
theorem dX5_absorb_79 : decode cX5_absorb 79 = .ok (.iconst 0, 1) := dk_at k_dX5_absorb_63 (i := 8) rfl
theorem dX5_absorb_80 : decode cX5_absorb 80 = .ok (.aload_n 0, 1) := dk_at k_dX5_absorb_63 (i := 9) rfl
theorem dX5_absorb_81 : decode cX5_absorb 81 = .ok (.getfield 10, 3) := dk_at k_dX5_absorb_63 (i := 10) rfl
theorem dX5_absorb_84 : decode cX5_absorb 84 = .ok (.getfield 165, 3) := dk_at k_dX5_absorb_63 (i := 11) rfl
theorem dX5_absorb_87 : decode cX5_absorb 87 = .ok (.iload_n 2, 1) := dk_at k_dX5_absorb_63 (i := 12) rfl
theorem dX5_absorb_88 : decode cX5_absorb 88 = .ok (.iaload, 1) := dk_at k_dX5_absorb_63 (i := 13) rfl
theorem dX5_absorb_89 : decode cX5_absorb 89 = .ok (.iload_n 2, 1) := dk_at k_dX5_absorb_63 (i := 14) rfl
theorem dX5_absorb_90 : decode cX5_absorb 90 = .ok (.iconst 1, 1) := dk_at k_dX5_absorb_63 (i := 15) rfl
theorem dX5_absorb_91 : decode cX5_absorb 91 = .ok (.iload_n 3, 1) := dk_at k_dX5_absorb_63 (i := 16) rfl
theorem dX5_absorb_92 : decode cX5_absorb 92 = .ok (.ishl, 1) := dk_at k_dX5_absorb_63 (i := 17) rfl
theorem dX5_absorb_93 : decode cX5_absorb 93 = .ok (.iconst 0, 1) := dk_at k_dX5_absorb_63 (i := 18) rfl
theorem dX5_absorb_94 : decode cX5_absorb 94 = .ok (.invokevirtual 77, 3) := dk_at k_dX5_absorb_63 (i := 19) rfl
theorem dX5_absorb_97 : decode cX5_absorb 97 = .ok (.ireturn, 1) := dk_at k_dX5_absorb_63 (i := 20) rfl
theorem k_dX5_ofField_0 : dk cX5_ofField [(0, .aload_n 0, 1), (1, .iload_n 1, 1), (2, .invokevirtual 62, 3), (5, .ifCond .ne 13, 3), (8, .new 65, 3), (11, .dup, 1), (12, .ldc 67, 2), (14, .invokespecial 69, 3), (17, .athrow, 1), (18, .iload_n 2, 1), (19, .tableswitch 122 0 6 #[41, 51, 64, 80, 90, 100, 113], 41), (60, .aload_n 0, 1), (61, .getfield 10, 3), (64, .getfield 165, 3), (67, .iload_n 1, 1), (68, .iaload, 1), (69, .ireturn, 1), (70, .aload_n 0, 1), (71, .getfield 21, 3), (74, .getfield 113, 3), (77, .getfield 168, 3), (80, .iload_n 1, 1), (81, .iaload, 1), (82, .ireturn, 1), (83, .aload_n 0, 1), (84, .getfield 21, 3), (87, .getfield 113, 3), (90, .getfield 168, 3), (93, .iload_n 1, 1), (94, .iaload, 1), (95, .invokestatic 171, 3), (98, .ireturn, 1)] = true := by decide +kernel
theorem dX5_ofField_0 : decode cX5_ofField 0 = .ok (.aload_n 0, 1) := dk_at k_dX5_ofField_0 (i := 0) rfl
theorem dX5_ofField_1 : decode cX5_ofField 1 = .ok (.iload_n 1, 1) := dk_at k_dX5_ofField_0 (i := 1) rfl
theorem dX5_ofField_2 : decode cX5_ofField 2 = .ok (.invokevirtual 62, 3) := dk_at k_dX5_ofField_0 (i := 2) rfl
theorem dX5_ofField_5 : decode cX5_ofField 5 = .ok (.ifCond .ne 13, 3) := dk_at k_dX5_ofField_0 (i := 3) rfl
theorem dX5_ofField_8 : decode cX5_ofField 8 = .ok (.new 65, 3) := dk_at k_dX5_ofField_0 (i := 4) rfl
theorem dX5_ofField_11 : decode cX5_ofField 11 = .ok (.dup, 1) := dk_at k_dX5_ofField_0 (i := 5) rfl
theorem dX5_ofField_12 : decode cX5_ofField 12 = .ok (.ldc 67, 2) := dk_at k_dX5_ofField_0 (i := 6) rfl
theorem dX5_ofField_14 : decode cX5_ofField 14 = .ok (.invokespecial 69, 3) := dk_at k_dX5_ofField_0 (i := 7) rfl
theorem dX5_ofField_17 : decode cX5_ofField 17 = .ok (.athrow, 1) := dk_at k_dX5_ofField_0 (i := 8) rfl
theorem dX5_ofField_18 : decode cX5_ofField 18 = .ok (.iload_n 2, 1) := dk_at k_dX5_ofField_0 (i := 9) rfl
theorem dX5_ofField_19 : decode cX5_ofField 19 = .ok (.tableswitch 122 0 6 #[41, 51, 64, 80, 90, 100, 113], 41) := dk_at k_dX5_ofField_0 (i := 10) rfl
theorem dX5_ofField_60 : decode cX5_ofField 60 = .ok (.aload_n 0, 1) := dk_at k_dX5_ofField_0 (i := 11) rfl
theorem dX5_ofField_61 : decode cX5_ofField 61 = .ok (.getfield 10, 3) := dk_at k_dX5_ofField_0 (i := 12) rfl
theorem dX5_ofField_64 : decode cX5_ofField 64 = .ok (.getfield 165, 3) := dk_at k_dX5_ofField_0 (i := 13) rfl
theorem dX5_ofField_67 : decode cX5_ofField 67 = .ok (.iload_n 1, 1) := dk_at k_dX5_ofField_0 (i := 14) rfl
theorem dX5_ofField_68 : decode cX5_ofField 68 = .ok (.iaload, 1) := dk_at k_dX5_ofField_0 (i := 15) rfl
theorem dX5_ofField_69 : decode cX5_ofField 69 = .ok (.ireturn, 1) := dk_at k_dX5_ofField_0 (i := 16) rfl
theorem dX5_ofField_70 : decode cX5_ofField 70 = .ok (.aload_n 0, 1) := dk_at k_dX5_ofField_0 (i := 17) rfl
theorem dX5_ofField_71 : decode cX5_ofField 71 = .ok (.getfield 21, 3) := dk_at k_dX5_ofField_0 (i := 18) rfl
theorem dX5_ofField_74 : decode cX5_ofField 74 = .ok (.getfield 113, 3) := dk_at k_dX5_ofField_0 (i := 19) rfl
theorem dX5_ofField_77 : decode cX5_ofField 77 = .ok (.getfield 168, 3) := dk_at k_dX5_ofField_0 (i := 20) rfl
theorem dX5_ofField_80 : decode cX5_ofField 80 = .ok (.iload_n 1, 1) := dk_at k_dX5_ofField_0 (i := 21) rfl
theorem dX5_ofField_81 : decode cX5_ofField 81 = .ok (.iaload, 1) := dk_at k_dX5_ofField_0 (i := 22) rfl
theorem dX5_ofField_82 : decode cX5_ofField 82 = .ok (.ireturn, 1) := dk_at k_dX5_ofField_0 (i := 23) rfl
theorem dX5_ofField_83 : decode cX5_ofField 83 = .ok (.aload_n 0, 1) := dk_at k_dX5_ofField_0 (i := 24) rfl
theorem dX5_ofField_84 : decode cX5_ofField 84 = .ok (.getfield 21, 3) := dk_at k_dX5_ofField_0 (i := 25) rfl
theorem dX5_ofField_87 : decode cX5_ofField 87 = .ok (.getfield 113, 3) := dk_at k_dX5_ofField_0 (i := 26) rfl
theorem dX5_ofField_90 : decode cX5_ofField 90 = .ok (.getfield 168, 3) := dk_at k_dX5_ofField_0 (i := 27) rfl
theorem dX5_ofField_93 : decode cX5_ofField 93 = .ok (.iload_n 1, 1) := dk_at k_dX5_ofField_0 (i := 28) rfl
theorem dX5_ofField_94 : decode cX5_ofField 94 = .ok (.iaload, 1) := dk_at k_dX5_ofField_0 (i := 29) rfl
theorem dX5_ofField_95 : decode cX5_ofField 95 = .ok (.invokestatic 171, 3) := dk_at k_dX5_ofField_0 (i := 30) rfl
theorem dX5_ofField_98 : decode cX5_ofField 98 = .ok (.ireturn, 1) := dk_at k_dX5_ofField_0 (i := 31) rfl
theorem k_dX5_ofField_99 : dk cX5_ofField [(99, .aload_n 0, 1), (100, .getfield 21, 3), (103, .getfield 128, 3), (106, .iload_n 1, 1), (107, .iaload, 1), (108, .ireturn, 1), (109, .aload_n 0, 1), (110, .getfield 10, 3), (113, .getfield 109, 3), (116, .iload_n 1, 1), (117, .iaload, 1), (118, .ireturn, 1), (119, .aload_n 0, 1), (120, .getfield 21, 3), (123, .getfield 176, 3), (126, .getfield 180, 3), (129, .iload_n 1, 1), (130, .iaload, 1), (131, .ireturn, 1), (132, .aload_n 0, 1), (133, .getfield 28, 3), (136, .iload_n 1, 1), (137, .invokevirtual 185, 3), (140, .ireturn, 1), (141, .new 40, 3), (144, .dup, 1), (145, .ldc 188, 2), (147, .invokespecial 44, 3), (150, .athrow, 1)] = true := by decide +kernel
theorem dX5_ofField_99 : decode cX5_ofField 99 = .ok (.aload_n 0, 1) := dk_at k_dX5_ofField_99 (i := 0) rfl
theorem dX5_ofField_100 : decode cX5_ofField 100 = .ok (.getfield 21, 3) := dk_at k_dX5_ofField_99 (i := 1) rfl
theorem dX5_ofField_103 : decode cX5_ofField 103 = .ok (.getfield 128, 3) := dk_at k_dX5_ofField_99 (i := 2) rfl
theorem dX5_ofField_106 : decode cX5_ofField 106 = .ok (.iload_n 1, 1) := dk_at k_dX5_ofField_99 (i := 3) rfl
theorem dX5_ofField_107 : decode cX5_ofField 107 = .ok (.iaload, 1) := dk_at k_dX5_ofField_99 (i := 4) rfl
theorem dX5_ofField_108 : decode cX5_ofField 108 = .ok (.ireturn, 1) := dk_at k_dX5_ofField_99 (i := 5) rfl
theorem dX5_ofField_109 : decode cX5_ofField 109 = .ok (.aload_n 0, 1) := dk_at k_dX5_ofField_99 (i := 6) rfl
theorem dX5_ofField_110 : decode cX5_ofField 110 = .ok (.getfield 10, 3) := dk_at k_dX5_ofField_99 (i := 7) rfl
theorem dX5_ofField_113 : decode cX5_ofField 113 = .ok (.getfield 109, 3) := dk_at k_dX5_ofField_99 (i := 8) rfl
theorem dX5_ofField_116 : decode cX5_ofField 116 = .ok (.iload_n 1, 1) := dk_at k_dX5_ofField_99 (i := 9) rfl
theorem dX5_ofField_117 : decode cX5_ofField 117 = .ok (.iaload, 1) := dk_at k_dX5_ofField_99 (i := 10) rfl
theorem dX5_ofField_118 : decode cX5_ofField 118 = .ok (.ireturn, 1) := dk_at k_dX5_ofField_99 (i := 11) rfl
theorem dX5_ofField_119 : decode cX5_ofField 119 = .ok (.aload_n 0, 1) := dk_at k_dX5_ofField_99 (i := 12) rfl
theorem dX5_ofField_120 : decode cX5_ofField 120 = .ok (.getfield 21, 3) := dk_at k_dX5_ofField_99 (i := 13) rfl
theorem dX5_ofField_123 : decode cX5_ofField 123 = .ok (.getfield 176, 3) := dk_at k_dX5_ofField_99 (i := 14) rfl
theorem dX5_ofField_126 : decode cX5_ofField 126 = .ok (.getfield 180, 3) := dk_at k_dX5_ofField_99 (i := 15) rfl
theorem dX5_ofField_129 : decode cX5_ofField 129 = .ok (.iload_n 1, 1) := dk_at k_dX5_ofField_99 (i := 16) rfl
theorem dX5_ofField_130 : decode cX5_ofField 130 = .ok (.iaload, 1) := dk_at k_dX5_ofField_99 (i := 17) rfl
theorem dX5_ofField_131 : decode cX5_ofField 131 = .ok (.ireturn, 1) := dk_at k_dX5_ofField_99 (i := 18) rfl
theorem dX5_ofField_132 : decode cX5_ofField 132 = .ok (.aload_n 0, 1) := dk_at k_dX5_ofField_99 (i := 19) rfl
theorem dX5_ofField_133 : decode cX5_ofField 133 = .ok (.getfield 28, 3) := dk_at k_dX5_ofField_99 (i := 20) rfl
theorem dX5_ofField_136 : decode cX5_ofField 136 = .ok (.iload_n 1, 1) := dk_at k_dX5_ofField_99 (i := 21) rfl
theorem dX5_ofField_137 : decode cX5_ofField 137 = .ok (.invokevirtual 185, 3) := dk_at k_dX5_ofField_99 (i := 22) rfl
theorem dX5_ofField_140 : decode cX5_ofField 140 = .ok (.ireturn, 1) := dk_at k_dX5_ofField_99 (i := 23) rfl
theorem dX5_ofField_141 : decode cX5_ofField 141 = .ok (.new 40, 3) := dk_at k_dX5_ofField_99 (i := 24) rfl
theorem dX5_ofField_144 : decode cX5_ofField 144 = .ok (.dup, 1) := dk_at k_dX5_ofField_99 (i := 25) rfl
theorem dX5_ofField_145 : decode cX5_ofField 145 = .ok (.ldc 188, 2) := dk_at k_dX5_ofField_99 (i := 26) rfl
theorem dX5_ofField_147 : decode cX5_ofField 147 = .ok (.invokespecial 44, 3) := dk_at k_dX5_ofField_99 (i := 27) rfl
theorem dX5_ofField_150 : decode cX5_ofField 150 = .ok (.athrow, 1) := dk_at k_dX5_ofField_99 (i := 28) rfl
theorem k_dX5_ofLine_0 : dk cX5_ofLine [(0, .aload_n 0, 1), (1, .iload_n 1, 1), (2, .invokevirtual 92, 3), (5, .ifCond .ne 13, 3), (8, .new 65, 3), (11, .dup, 1), (12, .ldc 95, 2), (14, .invokespecial 69, 3), (17, .athrow, 1), (18, .iload_n 2, 1), (19, .tableswitch 129 0 6 #[41, 51, 61, 71, 81, 91, 108], 41), (60, .aload_n 0, 1), (61, .getfield 10, 3), (64, .getfield 190, 3), (67, .iload_n 1, 1), (68, .iaload, 1), (69, .ireturn, 1), (70, .aload_n 0, 1), (71, .getfield 10, 3), (74, .getfield 193, 3), (77, .iload_n 1, 1), (78, .iaload, 1), (79, .ireturn, 1), (80, .aload_n 0, 1), (81, .getfield 10, 3), (84, .getfield 196, 3), (87, .iload_n 1, 1), (88, .iaload, 1), (89, .ireturn, 1), (90, .aload_n 0, 1), (91, .getfield 10, 3), (94, .getfield 199, 3)] = true := by decide +kernel
theorem dX5_ofLine_0 : decode cX5_ofLine 0 = .ok (.aload_n 0, 1) := dk_at k_dX5_ofLine_0 (i := 0) rfl
theorem dX5_ofLine_1 : decode cX5_ofLine 1 = .ok (.iload_n 1, 1) := dk_at k_dX5_ofLine_0 (i := 1) rfl
theorem dX5_ofLine_2 : decode cX5_ofLine 2 = .ok (.invokevirtual 92, 3) := dk_at k_dX5_ofLine_0 (i := 2) rfl
theorem dX5_ofLine_5 : decode cX5_ofLine 5 = .ok (.ifCond .ne 13, 3) := dk_at k_dX5_ofLine_0 (i := 3) rfl
theorem dX5_ofLine_8 : decode cX5_ofLine 8 = .ok (.new 65, 3) := dk_at k_dX5_ofLine_0 (i := 4) rfl
theorem dX5_ofLine_11 : decode cX5_ofLine 11 = .ok (.dup, 1) := dk_at k_dX5_ofLine_0 (i := 5) rfl
theorem dX5_ofLine_12 : decode cX5_ofLine 12 = .ok (.ldc 95, 2) := dk_at k_dX5_ofLine_0 (i := 6) rfl
theorem dX5_ofLine_14 : decode cX5_ofLine 14 = .ok (.invokespecial 69, 3) := dk_at k_dX5_ofLine_0 (i := 7) rfl
theorem dX5_ofLine_17 : decode cX5_ofLine 17 = .ok (.athrow, 1) := dk_at k_dX5_ofLine_0 (i := 8) rfl
theorem dX5_ofLine_18 : decode cX5_ofLine 18 = .ok (.iload_n 2, 1) := dk_at k_dX5_ofLine_0 (i := 9) rfl
theorem dX5_ofLine_19 : decode cX5_ofLine 19 = .ok (.tableswitch 129 0 6 #[41, 51, 61, 71, 81, 91, 108], 41) := dk_at k_dX5_ofLine_0 (i := 10) rfl
theorem dX5_ofLine_60 : decode cX5_ofLine 60 = .ok (.aload_n 0, 1) := dk_at k_dX5_ofLine_0 (i := 11) rfl
theorem dX5_ofLine_61 : decode cX5_ofLine 61 = .ok (.getfield 10, 3) := dk_at k_dX5_ofLine_0 (i := 12) rfl
theorem dX5_ofLine_64 : decode cX5_ofLine 64 = .ok (.getfield 190, 3) := dk_at k_dX5_ofLine_0 (i := 13) rfl
theorem dX5_ofLine_67 : decode cX5_ofLine 67 = .ok (.iload_n 1, 1) := dk_at k_dX5_ofLine_0 (i := 14) rfl
theorem dX5_ofLine_68 : decode cX5_ofLine 68 = .ok (.iaload, 1) := dk_at k_dX5_ofLine_0 (i := 15) rfl
theorem dX5_ofLine_69 : decode cX5_ofLine 69 = .ok (.ireturn, 1) := dk_at k_dX5_ofLine_0 (i := 16) rfl
theorem dX5_ofLine_70 : decode cX5_ofLine 70 = .ok (.aload_n 0, 1) := dk_at k_dX5_ofLine_0 (i := 17) rfl
theorem dX5_ofLine_71 : decode cX5_ofLine 71 = .ok (.getfield 10, 3) := dk_at k_dX5_ofLine_0 (i := 18) rfl
theorem dX5_ofLine_74 : decode cX5_ofLine 74 = .ok (.getfield 193, 3) := dk_at k_dX5_ofLine_0 (i := 19) rfl
theorem dX5_ofLine_77 : decode cX5_ofLine 77 = .ok (.iload_n 1, 1) := dk_at k_dX5_ofLine_0 (i := 20) rfl
theorem dX5_ofLine_78 : decode cX5_ofLine 78 = .ok (.iaload, 1) := dk_at k_dX5_ofLine_0 (i := 21) rfl
theorem dX5_ofLine_79 : decode cX5_ofLine 79 = .ok (.ireturn, 1) := dk_at k_dX5_ofLine_0 (i := 22) rfl
theorem dX5_ofLine_80 : decode cX5_ofLine 80 = .ok (.aload_n 0, 1) := dk_at k_dX5_ofLine_0 (i := 23) rfl
theorem dX5_ofLine_81 : decode cX5_ofLine 81 = .ok (.getfield 10, 3) := dk_at k_dX5_ofLine_0 (i := 24) rfl
theorem dX5_ofLine_84 : decode cX5_ofLine 84 = .ok (.getfield 196, 3) := dk_at k_dX5_ofLine_0 (i := 25) rfl
theorem dX5_ofLine_87 : decode cX5_ofLine 87 = .ok (.iload_n 1, 1) := dk_at k_dX5_ofLine_0 (i := 26) rfl
theorem dX5_ofLine_88 : decode cX5_ofLine 88 = .ok (.iaload, 1) := dk_at k_dX5_ofLine_0 (i := 27) rfl
theorem dX5_ofLine_89 : decode cX5_ofLine 89 = .ok (.ireturn, 1) := dk_at k_dX5_ofLine_0 (i := 28) rfl
theorem dX5_ofLine_90 : decode cX5_ofLine 90 = .ok (.aload_n 0, 1) := dk_at k_dX5_ofLine_0 (i := 29) rfl
theorem dX5_ofLine_91 : decode cX5_ofLine 91 = .ok (.getfield 10, 3) := dk_at k_dX5_ofLine_0 (i := 30) rfl
theorem dX5_ofLine_94 : decode cX5_ofLine 94 = .ok (.getfield 199, 3) := dk_at k_dX5_ofLine_0 (i := 31) rfl
theorem k_dX5_ofLine_97 : dk cX5_ofLine [(97, .iload_n 1, 1), (98, .iaload, 1), (99, .ireturn, 1), (100, .aload_n 0, 1), (101, .getfield 10, 3), (104, .getfield 202, 3), (107, .iload_n 1, 1), (108, .iaload, 1), (109, .ireturn, 1), (110, .aload_n 0, 1), (111, .getfield 10, 3), (114, .iload_n 1, 1), (115, .invokevirtual 101, 3), (118, .ifCond .eq 7, 3), (121, .iconst 1, 1), (122, .goto 4, 3), (125, .iconst 0, 1), (126, .ireturn, 1), (127, .aload_n 0, 1), (128, .getfield 21, 3), (131, .iconst (-1), 1), (132, .invokevirtual 205, 3), (135, .iload_n 1, 1), (136, .invokestatic 142, 3), (139, .ifCond .eq 7, 3), (142, .iconst 1, 1), (143, .goto 4, 3), (146, .iconst 0, 1), (147, .ireturn, 1), (148, .new 40, 3), (151, .dup, 1), (152, .ldc 188, 2)] = true := by decide +kernel
theorem dX5_ofLine_97 : decode cX5_ofLine 97 = .ok (.iload_n 1, 1) := dk_at k_dX5_ofLine_97 (i := 0) rfl
theorem dX5_ofLine_98 : decode cX5_ofLine 98 = .ok (.iaload, 1) := dk_at k_dX5_ofLine_97 (i := 1) rfl
theorem dX5_ofLine_99 : decode cX5_ofLine 99 = .ok (.ireturn, 1) := dk_at k_dX5_ofLine_97 (i := 2) rfl
theorem dX5_ofLine_100 : decode cX5_ofLine 100 = .ok (.aload_n 0, 1) := dk_at k_dX5_ofLine_97 (i := 3) rfl
theorem dX5_ofLine_101 : decode cX5_ofLine 101 = .ok (.getfield 10, 3) := dk_at k_dX5_ofLine_97 (i := 4) rfl
theorem dX5_ofLine_104 : decode cX5_ofLine 104 = .ok (.getfield 202, 3) := dk_at k_dX5_ofLine_97 (i := 5) rfl
theorem dX5_ofLine_107 : decode cX5_ofLine 107 = .ok (.iload_n 1, 1) := dk_at k_dX5_ofLine_97 (i := 6) rfl
theorem dX5_ofLine_108 : decode cX5_ofLine 108 = .ok (.iaload, 1) := dk_at k_dX5_ofLine_97 (i := 7) rfl
theorem dX5_ofLine_109 : decode cX5_ofLine 109 = .ok (.ireturn, 1) := dk_at k_dX5_ofLine_97 (i := 8) rfl
theorem dX5_ofLine_110 : decode cX5_ofLine 110 = .ok (.aload_n 0, 1) := dk_at k_dX5_ofLine_97 (i := 9) rfl
theorem dX5_ofLine_111 : decode cX5_ofLine 111 = .ok (.getfield 10, 3) := dk_at k_dX5_ofLine_97 (i := 10) rfl
theorem dX5_ofLine_114 : decode cX5_ofLine 114 = .ok (.iload_n 1, 1) := dk_at k_dX5_ofLine_97 (i := 11) rfl
theorem dX5_ofLine_115 : decode cX5_ofLine 115 = .ok (.invokevirtual 101, 3) := dk_at k_dX5_ofLine_97 (i := 12) rfl
theorem dX5_ofLine_118 : decode cX5_ofLine 118 = .ok (.ifCond .eq 7, 3) := dk_at k_dX5_ofLine_97 (i := 13) rfl
theorem dX5_ofLine_121 : decode cX5_ofLine 121 = .ok (.iconst 1, 1) := dk_at k_dX5_ofLine_97 (i := 14) rfl
theorem dX5_ofLine_122 : decode cX5_ofLine 122 = .ok (.goto 4, 3) := dk_at k_dX5_ofLine_97 (i := 15) rfl
theorem dX5_ofLine_125 : decode cX5_ofLine 125 = .ok (.iconst 0, 1) := dk_at k_dX5_ofLine_97 (i := 16) rfl
theorem dX5_ofLine_126 : decode cX5_ofLine 126 = .ok (.ireturn, 1) := dk_at k_dX5_ofLine_97 (i := 17) rfl
theorem dX5_ofLine_127 : decode cX5_ofLine 127 = .ok (.aload_n 0, 1) := dk_at k_dX5_ofLine_97 (i := 18) rfl
theorem dX5_ofLine_128 : decode cX5_ofLine 128 = .ok (.getfield 21, 3) := dk_at k_dX5_ofLine_97 (i := 19) rfl
theorem dX5_ofLine_131 : decode cX5_ofLine 131 = .ok (.iconst (-1), 1) := dk_at k_dX5_ofLine_97 (i := 20) rfl
theorem dX5_ofLine_132 : decode cX5_ofLine 132 = .ok (.invokevirtual 205, 3) := dk_at k_dX5_ofLine_97 (i := 21) rfl
theorem dX5_ofLine_135 : decode cX5_ofLine 135 = .ok (.iload_n 1, 1) := dk_at k_dX5_ofLine_97 (i := 22) rfl
theorem dX5_ofLine_136 : decode cX5_ofLine 136 = .ok (.invokestatic 142, 3) := dk_at k_dX5_ofLine_97 (i := 23) rfl
theorem dX5_ofLine_139 : decode cX5_ofLine 139 = .ok (.ifCond .eq 7, 3) := dk_at k_dX5_ofLine_97 (i := 24) rfl
theorem dX5_ofLine_142 : decode cX5_ofLine 142 = .ok (.iconst 1, 1) := dk_at k_dX5_ofLine_97 (i := 25) rfl
theorem dX5_ofLine_143 : decode cX5_ofLine 143 = .ok (.goto 4, 3) := dk_at k_dX5_ofLine_97 (i := 26) rfl
theorem dX5_ofLine_146 : decode cX5_ofLine 146 = .ok (.iconst 0, 1) := dk_at k_dX5_ofLine_97 (i := 27) rfl
theorem dX5_ofLine_147 : decode cX5_ofLine 147 = .ok (.ireturn, 1) := dk_at k_dX5_ofLine_97 (i := 28) rfl
theorem dX5_ofLine_148 : decode cX5_ofLine 148 = .ok (.new 40, 3) := dk_at k_dX5_ofLine_97 (i := 29) rfl
theorem dX5_ofLine_151 : decode cX5_ofLine 151 = .ok (.dup, 1) := dk_at k_dX5_ofLine_97 (i := 30) rfl
theorem dX5_ofLine_152 : decode cX5_ofLine 152 = .ok (.ldc 188, 2) := dk_at k_dX5_ofLine_97 (i := 31) rfl
theorem k_dX5_ofLine_154 : dk cX5_ofLine [(154, .invokespecial 44, 3), (157, .athrow, 1)] = true := by decide +kernel
theorem dX5_ofLine_154 : decode cX5_ofLine 154 = .ok (.invokespecial 44, 3) := dk_at k_dX5_ofLine_154 (i := 0) rfl
theorem dX5_ofLine_157 : decode cX5_ofLine 157 = .ok (.athrow, 1) := dk_at k_dX5_ofLine_154 (i := 1) rfl
theorem k_dX5_ofMachine_0 : dk cX5_ofMachine [(0, .iload_n 1, 1), (1, .invokestatic 149, 3), (4, .ifCond .ne 13, 3), (7, .new 65, 3), (10, .dup, 1), (11, .ldc 208, 2), (13, .invokespecial 69, 3), (16, .athrow, 1), (17, .iload_n 2, 1), (18, .tableswitch 57 0 2 #[26, 36, 48], 26), (44, .aload_n 0, 1), (45, .getfield 28, 3), (48, .getfield 210, 3), (51, .iload_n 1, 1), (52, .iaload, 1), (53, .ireturn, 1), (54, .aload_n 0, 1), (55, .getfield 28, 3), (58, .iload_n 1, 1), (59, .invokevirtual 213, 3), (62, .invokestatic 171, 3), (65, .ireturn, 1), (66, .aload_n 0, 1), (67, .getfield 28, 3), (70, .iload_n 1, 1), (71, .invokevirtual 213, 3), (74, .ireturn, 1), (75, .new 40, 3), (78, .dup, 1), (79, .ldc 216, 2), (81, .invokespecial 44, 3), (84, .athrow, 1)] = true := by decide +kernel
theorem dX5_ofMachine_0 : decode cX5_ofMachine 0 = .ok (.iload_n 1, 1) := dk_at k_dX5_ofMachine_0 (i := 0) rfl
theorem dX5_ofMachine_1 : decode cX5_ofMachine 1 = .ok (.invokestatic 149, 3) := dk_at k_dX5_ofMachine_0 (i := 1) rfl
theorem dX5_ofMachine_4 : decode cX5_ofMachine 4 = .ok (.ifCond .ne 13, 3) := dk_at k_dX5_ofMachine_0 (i := 2) rfl
theorem dX5_ofMachine_7 : decode cX5_ofMachine 7 = .ok (.new 65, 3) := dk_at k_dX5_ofMachine_0 (i := 3) rfl
theorem dX5_ofMachine_10 : decode cX5_ofMachine 10 = .ok (.dup, 1) := dk_at k_dX5_ofMachine_0 (i := 4) rfl
theorem dX5_ofMachine_11 : decode cX5_ofMachine 11 = .ok (.ldc 208, 2) := dk_at k_dX5_ofMachine_0 (i := 5) rfl
theorem dX5_ofMachine_13 : decode cX5_ofMachine 13 = .ok (.invokespecial 69, 3) := dk_at k_dX5_ofMachine_0 (i := 6) rfl
theorem dX5_ofMachine_16 : decode cX5_ofMachine 16 = .ok (.athrow, 1) := dk_at k_dX5_ofMachine_0 (i := 7) rfl
theorem dX5_ofMachine_17 : decode cX5_ofMachine 17 = .ok (.iload_n 2, 1) := dk_at k_dX5_ofMachine_0 (i := 8) rfl
theorem dX5_ofMachine_18 : decode cX5_ofMachine 18 = .ok (.tableswitch 57 0 2 #[26, 36, 48], 26) := dk_at k_dX5_ofMachine_0 (i := 9) rfl
theorem dX5_ofMachine_44 : decode cX5_ofMachine 44 = .ok (.aload_n 0, 1) := dk_at k_dX5_ofMachine_0 (i := 10) rfl
theorem dX5_ofMachine_45 : decode cX5_ofMachine 45 = .ok (.getfield 28, 3) := dk_at k_dX5_ofMachine_0 (i := 11) rfl
theorem dX5_ofMachine_48 : decode cX5_ofMachine 48 = .ok (.getfield 210, 3) := dk_at k_dX5_ofMachine_0 (i := 12) rfl
theorem dX5_ofMachine_51 : decode cX5_ofMachine 51 = .ok (.iload_n 1, 1) := dk_at k_dX5_ofMachine_0 (i := 13) rfl
theorem dX5_ofMachine_52 : decode cX5_ofMachine 52 = .ok (.iaload, 1) := dk_at k_dX5_ofMachine_0 (i := 14) rfl
theorem dX5_ofMachine_53 : decode cX5_ofMachine 53 = .ok (.ireturn, 1) := dk_at k_dX5_ofMachine_0 (i := 15) rfl
theorem dX5_ofMachine_54 : decode cX5_ofMachine 54 = .ok (.aload_n 0, 1) := dk_at k_dX5_ofMachine_0 (i := 16) rfl
theorem dX5_ofMachine_55 : decode cX5_ofMachine 55 = .ok (.getfield 28, 3) := dk_at k_dX5_ofMachine_0 (i := 17) rfl
theorem dX5_ofMachine_58 : decode cX5_ofMachine 58 = .ok (.iload_n 1, 1) := dk_at k_dX5_ofMachine_0 (i := 18) rfl
theorem dX5_ofMachine_59 : decode cX5_ofMachine 59 = .ok (.invokevirtual 213, 3) := dk_at k_dX5_ofMachine_0 (i := 19) rfl
theorem dX5_ofMachine_62 : decode cX5_ofMachine 62 = .ok (.invokestatic 171, 3) := dk_at k_dX5_ofMachine_0 (i := 20) rfl
theorem dX5_ofMachine_65 : decode cX5_ofMachine 65 = .ok (.ireturn, 1) := dk_at k_dX5_ofMachine_0 (i := 21) rfl
theorem dX5_ofMachine_66 : decode cX5_ofMachine 66 = .ok (.aload_n 0, 1) := dk_at k_dX5_ofMachine_0 (i := 22) rfl
theorem dX5_ofMachine_67 : decode cX5_ofMachine 67 = .ok (.getfield 28, 3) := dk_at k_dX5_ofMachine_0 (i := 23) rfl
theorem dX5_ofMachine_70 : decode cX5_ofMachine 70 = .ok (.iload_n 1, 1) := dk_at k_dX5_ofMachine_0 (i := 24) rfl
theorem dX5_ofMachine_71 : decode cX5_ofMachine 71 = .ok (.invokevirtual 213, 3) := dk_at k_dX5_ofMachine_0 (i := 25) rfl
theorem dX5_ofMachine_74 : decode cX5_ofMachine 74 = .ok (.ireturn, 1) := dk_at k_dX5_ofMachine_0 (i := 26) rfl
theorem dX5_ofMachine_75 : decode cX5_ofMachine 75 = .ok (.new 40, 3) := dk_at k_dX5_ofMachine_0 (i := 27) rfl
theorem dX5_ofMachine_78 : decode cX5_ofMachine 78 = .ok (.dup, 1) := dk_at k_dX5_ofMachine_0 (i := 28) rfl
theorem dX5_ofMachine_79 : decode cX5_ofMachine 79 = .ok (.ldc 216, 2) := dk_at k_dX5_ofMachine_0 (i := 29) rfl
theorem dX5_ofMachine_81 : decode cX5_ofMachine 81 = .ok (.invokespecial 44, 3) := dk_at k_dX5_ofMachine_0 (i := 30) rfl
theorem dX5_ofMachine_84 : decode cX5_ofMachine 84 = .ok (.athrow, 1) := dk_at k_dX5_ofMachine_0 (i := 31) rfl
theorem k_dX5_has_0 : dk cX5_has [(0, .iload_n 1, 1), (1, .invokestatic 149, 3), (4, .ifCond .eq 11, 3), (7, .aload_n 0, 1), (8, .iload_n 2, 1), (9, .invokevirtual 62, 3), (12, .ifCond .ne 13, 3), (15, .new 65, 3), (18, .dup, 1), (19, .ldc 152, 2), (21, .invokespecial 69, 3), (24, .athrow, 1), (25, .aload_n 0, 1), (26, .getfield 28, 3), (29, .getfield 156, 3), (32, .iload_n 1, 1), (33, .aaload, 1), (34, .iload_n 2, 1), (35, .iaload, 1), (36, .ireturn, 1)] = true := by decide +kernel
theorem dX5_has_0 : decode cX5_has 0 = .ok (.iload_n 1, 1) := dk_at k_dX5_has_0 (i := 0) rfl
theorem dX5_has_1 : decode cX5_has 1 = .ok (.invokestatic 149, 3) := dk_at k_dX5_has_0 (i := 1) rfl
theorem dX5_has_4 : decode cX5_has 4 = .ok (.ifCond .eq 11, 3) := dk_at k_dX5_has_0 (i := 2) rfl
theorem dX5_has_7 : decode cX5_has 7 = .ok (.aload_n 0, 1) := dk_at k_dX5_has_0 (i := 3) rfl
theorem dX5_has_8 : decode cX5_has 8 = .ok (.iload_n 2, 1) := dk_at k_dX5_has_0 (i := 4) rfl
theorem dX5_has_9 : decode cX5_has 9 = .ok (.invokevirtual 62, 3) := dk_at k_dX5_has_0 (i := 5) rfl
theorem dX5_has_12 : decode cX5_has 12 = .ok (.ifCond .ne 13, 3) := dk_at k_dX5_has_0 (i := 6) rfl
theorem dX5_has_15 : decode cX5_has 15 = .ok (.new 65, 3) := dk_at k_dX5_has_0 (i := 7) rfl
theorem dX5_has_18 : decode cX5_has 18 = .ok (.dup, 1) := dk_at k_dX5_has_0 (i := 8) rfl
theorem dX5_has_19 : decode cX5_has 19 = .ok (.ldc 152, 2) := dk_at k_dX5_has_0 (i := 9) rfl
theorem dX5_has_21 : decode cX5_has 21 = .ok (.invokespecial 69, 3) := dk_at k_dX5_has_0 (i := 10) rfl
theorem dX5_has_24 : decode cX5_has 24 = .ok (.athrow, 1) := dk_at k_dX5_has_0 (i := 11) rfl
theorem dX5_has_25 : decode cX5_has 25 = .ok (.aload_n 0, 1) := dk_at k_dX5_has_0 (i := 12) rfl
theorem dX5_has_26 : decode cX5_has 26 = .ok (.getfield 28, 3) := dk_at k_dX5_has_0 (i := 13) rfl
theorem dX5_has_29 : decode cX5_has 29 = .ok (.getfield 156, 3) := dk_at k_dX5_has_0 (i := 14) rfl
theorem dX5_has_32 : decode cX5_has 32 = .ok (.iload_n 1, 1) := dk_at k_dX5_has_0 (i := 15) rfl
theorem dX5_has_33 : decode cX5_has 33 = .ok (.aaload, 1) := dk_at k_dX5_has_0 (i := 16) rfl
theorem dX5_has_34 : decode cX5_has 34 = .ok (.iload_n 2, 1) := dk_at k_dX5_has_0 (i := 17) rfl
theorem dX5_has_35 : decode cX5_has 35 = .ok (.iaload, 1) := dk_at k_dX5_has_0 (i := 18) rfl
theorem dX5_has_36 : decode cX5_has 36 = .ok (.ireturn, 1) := dk_at k_dX5_has_0 (i := 19) rfl
theorem k_dX5_ofCommit_0 : dk cX5_ofCommit [(0, .aload_n 0, 1), (1, .iload_n 1, 1), (2, .invokevirtual 135, 3), (5, .ifCond .eq 11, 3), (8, .aload_n 0, 1), (9, .iload_n 2, 1), (10, .invokevirtual 62, 3), (13, .ifCond .ne 13, 3), (16, .new 65, 3), (19, .dup, 1), (20, .ldc 218, 2), (22, .invokespecial 69, 3), (25, .athrow, 1), (26, .aload_n 0, 1), (27, .getfield 28, 3), (30, .getfield 220, 3), (33, .iload_n 1, 1), (34, .aaload, 1), (35, .iload_n 2, 1), (36, .iaload, 1), (37, .ireturn, 1)] = true := by decide +kernel
theorem dX5_ofCommit_0 : decode cX5_ofCommit 0 = .ok (.aload_n 0, 1) := dk_at k_dX5_ofCommit_0 (i := 0) rfl
theorem dX5_ofCommit_1 : decode cX5_ofCommit 1 = .ok (.iload_n 1, 1) := dk_at k_dX5_ofCommit_0 (i := 1) rfl
theorem dX5_ofCommit_2 : decode cX5_ofCommit 2 = .ok (.invokevirtual 135, 3) := dk_at k_dX5_ofCommit_0 (i := 2) rfl
theorem dX5_ofCommit_5 : decode cX5_ofCommit 5 = .ok (.ifCond .eq 11, 3) := dk_at k_dX5_ofCommit_0 (i := 3) rfl
theorem dX5_ofCommit_8 : decode cX5_ofCommit 8 = .ok (.aload_n 0, 1) := dk_at k_dX5_ofCommit_0 (i := 4) rfl
theorem dX5_ofCommit_9 : decode cX5_ofCommit 9 = .ok (.iload_n 2, 1) := dk_at k_dX5_ofCommit_0 (i := 5) rfl
theorem dX5_ofCommit_10 : decode cX5_ofCommit 10 = .ok (.invokevirtual 62, 3) := dk_at k_dX5_ofCommit_0 (i := 6) rfl
theorem dX5_ofCommit_13 : decode cX5_ofCommit 13 = .ok (.ifCond .ne 13, 3) := dk_at k_dX5_ofCommit_0 (i := 7) rfl
theorem dX5_ofCommit_16 : decode cX5_ofCommit 16 = .ok (.new 65, 3) := dk_at k_dX5_ofCommit_0 (i := 8) rfl
theorem dX5_ofCommit_19 : decode cX5_ofCommit 19 = .ok (.dup, 1) := dk_at k_dX5_ofCommit_0 (i := 9) rfl
theorem dX5_ofCommit_20 : decode cX5_ofCommit 20 = .ok (.ldc 218, 2) := dk_at k_dX5_ofCommit_0 (i := 10) rfl
theorem dX5_ofCommit_22 : decode cX5_ofCommit 22 = .ok (.invokespecial 69, 3) := dk_at k_dX5_ofCommit_0 (i := 11) rfl
theorem dX5_ofCommit_25 : decode cX5_ofCommit 25 = .ok (.athrow, 1) := dk_at k_dX5_ofCommit_0 (i := 12) rfl
theorem dX5_ofCommit_26 : decode cX5_ofCommit 26 = .ok (.aload_n 0, 1) := dk_at k_dX5_ofCommit_0 (i := 13) rfl
theorem dX5_ofCommit_27 : decode cX5_ofCommit 27 = .ok (.getfield 28, 3) := dk_at k_dX5_ofCommit_0 (i := 14) rfl
theorem dX5_ofCommit_30 : decode cX5_ofCommit 30 = .ok (.getfield 220, 3) := dk_at k_dX5_ofCommit_0 (i := 15) rfl
theorem dX5_ofCommit_33 : decode cX5_ofCommit 33 = .ok (.iload_n 1, 1) := dk_at k_dX5_ofCommit_0 (i := 16) rfl
theorem dX5_ofCommit_34 : decode cX5_ofCommit 34 = .ok (.aaload, 1) := dk_at k_dX5_ofCommit_0 (i := 17) rfl
theorem dX5_ofCommit_35 : decode cX5_ofCommit 35 = .ok (.iload_n 2, 1) := dk_at k_dX5_ofCommit_0 (i := 18) rfl
theorem dX5_ofCommit_36 : decode cX5_ofCommit 36 = .ok (.iaload, 1) := dk_at k_dX5_ofCommit_0 (i := 19) rfl
theorem dX5_ofCommit_37 : decode cX5_ofCommit 37 = .ok (.ireturn, 1) := dk_at k_dX5_ofCommit_0 (i := 20) rfl
theorem k_dX5_house_0 : dk cX5_house [(0, .iload_n 1, 1), (1, .tableswitch 134 0 8 #[51, 59, 67, 75, 94, 102, 110, 118, 129], 51), (52, .aload_n 0, 1), (53, .getfield 10, 3), (56, .getfield 47, 3), (59, .ireturn, 1), (60, .aload_n 0, 1), (61, .getfield 10, 3), (64, .getfield 72, 3), (67, .ireturn, 1), (68, .aload_n 0, 1), (69, .getfield 10, 3), (72, .invokevirtual 223, 3), (75, .ireturn, 1), (76, .aload_n 0, 1), (77, .getfield 21, 3), (80, .getfield 113, 3), (83, .getfield 117, 3), (86, .ifCond .eq 7, 3), (89, .iconst 1, 1), (90, .goto 4, 3), (93, .iconst 0, 1), (94, .ireturn, 1), (95, .aload_n 0, 1), (96, .getfield 21, 3), (99, .invokevirtual 227, 3), (102, .ireturn, 1), (103, .aload_n 0, 1), (104, .getfield 28, 3), (107, .getfield 123, 3), (110, .ireturn, 1), (111, .aload_n 0, 1)] = true := by decide +kernel
theorem dX5_house_0 : decode cX5_house 0 = .ok (.iload_n 1, 1) := dk_at k_dX5_house_0 (i := 0) rfl
theorem dX5_house_1 : decode cX5_house 1 = .ok (.tableswitch 134 0 8 #[51, 59, 67, 75, 94, 102, 110, 118, 129], 51) := dk_at k_dX5_house_0 (i := 1) rfl
theorem dX5_house_52 : decode cX5_house 52 = .ok (.aload_n 0, 1) := dk_at k_dX5_house_0 (i := 2) rfl
theorem dX5_house_53 : decode cX5_house 53 = .ok (.getfield 10, 3) := dk_at k_dX5_house_0 (i := 3) rfl
theorem dX5_house_56 : decode cX5_house 56 = .ok (.getfield 47, 3) := dk_at k_dX5_house_0 (i := 4) rfl
theorem dX5_house_59 : decode cX5_house 59 = .ok (.ireturn, 1) := dk_at k_dX5_house_0 (i := 5) rfl
theorem dX5_house_60 : decode cX5_house 60 = .ok (.aload_n 0, 1) := dk_at k_dX5_house_0 (i := 6) rfl
theorem dX5_house_61 : decode cX5_house 61 = .ok (.getfield 10, 3) := dk_at k_dX5_house_0 (i := 7) rfl
theorem dX5_house_64 : decode cX5_house 64 = .ok (.getfield 72, 3) := dk_at k_dX5_house_0 (i := 8) rfl
theorem dX5_house_67 : decode cX5_house 67 = .ok (.ireturn, 1) := dk_at k_dX5_house_0 (i := 9) rfl
theorem dX5_house_68 : decode cX5_house 68 = .ok (.aload_n 0, 1) := dk_at k_dX5_house_0 (i := 10) rfl
theorem dX5_house_69 : decode cX5_house 69 = .ok (.getfield 10, 3) := dk_at k_dX5_house_0 (i := 11) rfl
theorem dX5_house_72 : decode cX5_house 72 = .ok (.invokevirtual 223, 3) := dk_at k_dX5_house_0 (i := 12) rfl
theorem dX5_house_75 : decode cX5_house 75 = .ok (.ireturn, 1) := dk_at k_dX5_house_0 (i := 13) rfl
theorem dX5_house_76 : decode cX5_house 76 = .ok (.aload_n 0, 1) := dk_at k_dX5_house_0 (i := 14) rfl
theorem dX5_house_77 : decode cX5_house 77 = .ok (.getfield 21, 3) := dk_at k_dX5_house_0 (i := 15) rfl
theorem dX5_house_80 : decode cX5_house 80 = .ok (.getfield 113, 3) := dk_at k_dX5_house_0 (i := 16) rfl
theorem dX5_house_83 : decode cX5_house 83 = .ok (.getfield 117, 3) := dk_at k_dX5_house_0 (i := 17) rfl
theorem dX5_house_86 : decode cX5_house 86 = .ok (.ifCond .eq 7, 3) := dk_at k_dX5_house_0 (i := 18) rfl
theorem dX5_house_89 : decode cX5_house 89 = .ok (.iconst 1, 1) := dk_at k_dX5_house_0 (i := 19) rfl
theorem dX5_house_90 : decode cX5_house 90 = .ok (.goto 4, 3) := dk_at k_dX5_house_0 (i := 20) rfl
theorem dX5_house_93 : decode cX5_house 93 = .ok (.iconst 0, 1) := dk_at k_dX5_house_0 (i := 21) rfl
theorem dX5_house_94 : decode cX5_house 94 = .ok (.ireturn, 1) := dk_at k_dX5_house_0 (i := 22) rfl
theorem dX5_house_95 : decode cX5_house 95 = .ok (.aload_n 0, 1) := dk_at k_dX5_house_0 (i := 23) rfl
theorem dX5_house_96 : decode cX5_house 96 = .ok (.getfield 21, 3) := dk_at k_dX5_house_0 (i := 24) rfl
theorem dX5_house_99 : decode cX5_house 99 = .ok (.invokevirtual 227, 3) := dk_at k_dX5_house_0 (i := 25) rfl
theorem dX5_house_102 : decode cX5_house 102 = .ok (.ireturn, 1) := dk_at k_dX5_house_0 (i := 26) rfl
theorem dX5_house_103 : decode cX5_house 103 = .ok (.aload_n 0, 1) := dk_at k_dX5_house_0 (i := 27) rfl
theorem dX5_house_104 : decode cX5_house 104 = .ok (.getfield 28, 3) := dk_at k_dX5_house_0 (i := 28) rfl
theorem dX5_house_107 : decode cX5_house 107 = .ok (.getfield 123, 3) := dk_at k_dX5_house_0 (i := 29) rfl
theorem dX5_house_110 : decode cX5_house 110 = .ok (.ireturn, 1) := dk_at k_dX5_house_0 (i := 30) rfl
theorem dX5_house_111 : decode cX5_house 111 = .ok (.aload_n 0, 1) := dk_at k_dX5_house_0 (i := 31) rfl
theorem k_dX5_house_112 : dk cX5_house [(112, .getfield 28, 3), (115, .invokevirtual 230, 3), (118, .ireturn, 1), (119, .aload_n 0, 1), (120, .getfield 21, 3), (123, .getfield 176, 3), (126, .getfield 233, 3), (129, .ireturn, 1), (130, .aload_n 0, 1), (131, .getfield 32, 3), (134, .ireturn, 1), (135, .new 40, 3), (138, .dup, 1), (139, .ldc 236, 2), (141, .invokespecial 44, 3), (144, .athrow, 1)] = true := by decide +kernel
theorem dX5_house_112 : decode cX5_house 112 = .ok (.getfield 28, 3) := dk_at k_dX5_house_112 (i := 0) rfl
theorem dX5_house_115 : decode cX5_house 115 = .ok (.invokevirtual 230, 3) := dk_at k_dX5_house_112 (i := 1) rfl
theorem dX5_house_118 : decode cX5_house 118 = .ok (.ireturn, 1) := dk_at k_dX5_house_112 (i := 2) rfl
theorem dX5_house_119 : decode cX5_house 119 = .ok (.aload_n 0, 1) := dk_at k_dX5_house_112 (i := 3) rfl
theorem dX5_house_120 : decode cX5_house 120 = .ok (.getfield 21, 3) := dk_at k_dX5_house_112 (i := 4) rfl
theorem dX5_house_123 : decode cX5_house 123 = .ok (.getfield 176, 3) := dk_at k_dX5_house_112 (i := 5) rfl
theorem dX5_house_126 : decode cX5_house 126 = .ok (.getfield 233, 3) := dk_at k_dX5_house_112 (i := 6) rfl
theorem dX5_house_129 : decode cX5_house 129 = .ok (.ireturn, 1) := dk_at k_dX5_house_112 (i := 7) rfl
theorem dX5_house_130 : decode cX5_house 130 = .ok (.aload_n 0, 1) := dk_at k_dX5_house_112 (i := 8) rfl
theorem dX5_house_131 : decode cX5_house 131 = .ok (.getfield 32, 3) := dk_at k_dX5_house_112 (i := 9) rfl
theorem dX5_house_134 : decode cX5_house 134 = .ok (.ireturn, 1) := dk_at k_dX5_house_112 (i := 10) rfl
theorem dX5_house_135 : decode cX5_house 135 = .ok (.new 40, 3) := dk_at k_dX5_house_112 (i := 11) rfl
theorem dX5_house_138 : decode cX5_house 138 = .ok (.dup, 1) := dk_at k_dX5_house_112 (i := 12) rfl
theorem dX5_house_139 : decode cX5_house 139 = .ok (.ldc 236, 2) := dk_at k_dX5_house_112 (i := 13) rfl
theorem dX5_house_141 : decode cX5_house 141 = .ok (.invokespecial 44, 3) := dk_at k_dX5_house_112 (i := 14) rfl
theorem dX5_house_144 : decode cX5_house 144 = .ok (.athrow, 1) := dk_at k_dX5_house_112 (i := 15) rfl
theorem k_dX5_reason_0 : dk cX5_reason [(0, .iload_n 1, 1), (1, .iconst (-1), 1), (2, .if_icmp .eq 21, 3), (5, .aload_n 0, 1), (6, .iload_n 1, 1), (7, .invokevirtual 62, 3), (10, .ifCond .ne 13, 3), (13, .new 65, 3), (16, .dup, 1), (17, .ldc 67, 2), (19, .invokespecial 69, 3), (22, .athrow, 1), (23, .aload_n 0, 1), (24, .getfield 21, 3), (27, .iload_n 1, 1), (28, .invokevirtual 205, 3), (31, .ireturn, 1)] = true := by decide +kernel
theorem dX5_reason_0 : decode cX5_reason 0 = .ok (.iload_n 1, 1) := dk_at k_dX5_reason_0 (i := 0) rfl
theorem dX5_reason_1 : decode cX5_reason 1 = .ok (.iconst (-1), 1) := dk_at k_dX5_reason_0 (i := 1) rfl
theorem dX5_reason_2 : decode cX5_reason 2 = .ok (.if_icmp .eq 21, 3) := dk_at k_dX5_reason_0 (i := 2) rfl
theorem dX5_reason_5 : decode cX5_reason 5 = .ok (.aload_n 0, 1) := dk_at k_dX5_reason_0 (i := 3) rfl
theorem dX5_reason_6 : decode cX5_reason 6 = .ok (.iload_n 1, 1) := dk_at k_dX5_reason_0 (i := 4) rfl
theorem dX5_reason_7 : decode cX5_reason 7 = .ok (.invokevirtual 62, 3) := dk_at k_dX5_reason_0 (i := 5) rfl
theorem dX5_reason_10 : decode cX5_reason 10 = .ok (.ifCond .ne 13, 3) := dk_at k_dX5_reason_0 (i := 6) rfl
theorem dX5_reason_13 : decode cX5_reason 13 = .ok (.new 65, 3) := dk_at k_dX5_reason_0 (i := 7) rfl
theorem dX5_reason_16 : decode cX5_reason 16 = .ok (.dup, 1) := dk_at k_dX5_reason_0 (i := 8) rfl
theorem dX5_reason_17 : decode cX5_reason 17 = .ok (.ldc 67, 2) := dk_at k_dX5_reason_0 (i := 9) rfl
theorem dX5_reason_19 : decode cX5_reason 19 = .ok (.invokespecial 69, 3) := dk_at k_dX5_reason_0 (i := 10) rfl
theorem dX5_reason_22 : decode cX5_reason 22 = .ok (.athrow, 1) := dk_at k_dX5_reason_0 (i := 11) rfl
theorem dX5_reason_23 : decode cX5_reason 23 = .ok (.aload_n 0, 1) := dk_at k_dX5_reason_0 (i := 12) rfl
theorem dX5_reason_24 : decode cX5_reason 24 = .ok (.getfield 21, 3) := dk_at k_dX5_reason_0 (i := 13) rfl
theorem dX5_reason_27 : decode cX5_reason 27 = .ok (.iload_n 1, 1) := dk_at k_dX5_reason_0 (i := 14) rfl
theorem dX5_reason_28 : decode cX5_reason 28 = .ok (.invokevirtual 205, 3) := dk_at k_dX5_reason_0 (i := 15) rfl
theorem dX5_reason_31 : decode cX5_reason 31 = .ok (.ireturn, 1) := dk_at k_dX5_reason_0 (i := 16) rfl
theorem k_dX5_met_0 : dk cX5_met [(0, .aload_n 0, 1), (1, .iload_n 2, 1), (2, .invokevirtual 62, 3), (5, .ifCond .ne 13, 3), (8, .new 65, 3), (11, .dup, 1), (12, .ldc 67, 2), (14, .invokespecial 69, 3), (17, .athrow, 1), (18, .iload_n 1, 1), (19, .ifCond .lt 15, 3), (22, .iload_n 1, 1), (23, .aload_n 0, 1), (24, .getfield 10, 3), (27, .getfield 72, 3), (30, .ishr, 1), (31, .ifCond .eq 13, 3), (34, .new 40, 3), (37, .dup, 1), (38, .ldc 252, 2), (40, .invokespecial 44, 3), (43, .athrow, 1), (44, .aload_n 0, 1), (45, .getfield 21, 3), (48, .getfield 254, 3), (51, .iload_n 1, 1), (52, .invokevirtual 257, 3), (55, .aload_n 0, 1), (56, .getfield 21, 3), (59, .getfield 254, 3), (62, .getfield 168, 3), (65, .iload_n 2, 1)] = true := by decide +kernel
theorem dX5_met_0 : decode cX5_met 0 = .ok (.aload_n 0, 1) := dk_at k_dX5_met_0 (i := 0) rfl
theorem dX5_met_1 : decode cX5_met 1 = .ok (.iload_n 2, 1) := dk_at k_dX5_met_0 (i := 1) rfl
theorem dX5_met_2 : decode cX5_met 2 = .ok (.invokevirtual 62, 3) := dk_at k_dX5_met_0 (i := 2) rfl
theorem dX5_met_5 : decode cX5_met 5 = .ok (.ifCond .ne 13, 3) := dk_at k_dX5_met_0 (i := 3) rfl
theorem dX5_met_8 : decode cX5_met 8 = .ok (.new 65, 3) := dk_at k_dX5_met_0 (i := 4) rfl
theorem dX5_met_11 : decode cX5_met 11 = .ok (.dup, 1) := dk_at k_dX5_met_0 (i := 5) rfl
theorem dX5_met_12 : decode cX5_met 12 = .ok (.ldc 67, 2) := dk_at k_dX5_met_0 (i := 6) rfl
theorem dX5_met_14 : decode cX5_met 14 = .ok (.invokespecial 69, 3) := dk_at k_dX5_met_0 (i := 7) rfl
theorem dX5_met_17 : decode cX5_met 17 = .ok (.athrow, 1) := dk_at k_dX5_met_0 (i := 8) rfl
theorem dX5_met_18 : decode cX5_met 18 = .ok (.iload_n 1, 1) := dk_at k_dX5_met_0 (i := 9) rfl
theorem dX5_met_19 : decode cX5_met 19 = .ok (.ifCond .lt 15, 3) := dk_at k_dX5_met_0 (i := 10) rfl
theorem dX5_met_22 : decode cX5_met 22 = .ok (.iload_n 1, 1) := dk_at k_dX5_met_0 (i := 11) rfl
theorem dX5_met_23 : decode cX5_met 23 = .ok (.aload_n 0, 1) := dk_at k_dX5_met_0 (i := 12) rfl
theorem dX5_met_24 : decode cX5_met 24 = .ok (.getfield 10, 3) := dk_at k_dX5_met_0 (i := 13) rfl
theorem dX5_met_27 : decode cX5_met 27 = .ok (.getfield 72, 3) := dk_at k_dX5_met_0 (i := 14) rfl
theorem dX5_met_30 : decode cX5_met 30 = .ok (.ishr, 1) := dk_at k_dX5_met_0 (i := 15) rfl
theorem dX5_met_31 : decode cX5_met 31 = .ok (.ifCond .eq 13, 3) := dk_at k_dX5_met_0 (i := 16) rfl
theorem dX5_met_34 : decode cX5_met 34 = .ok (.new 40, 3) := dk_at k_dX5_met_0 (i := 17) rfl
theorem dX5_met_37 : decode cX5_met 37 = .ok (.dup, 1) := dk_at k_dX5_met_0 (i := 18) rfl
theorem dX5_met_38 : decode cX5_met 38 = .ok (.ldc 252, 2) := dk_at k_dX5_met_0 (i := 19) rfl
theorem dX5_met_40 : decode cX5_met 40 = .ok (.invokespecial 44, 3) := dk_at k_dX5_met_0 (i := 20) rfl
theorem dX5_met_43 : decode cX5_met 43 = .ok (.athrow, 1) := dk_at k_dX5_met_0 (i := 21) rfl
theorem dX5_met_44 : decode cX5_met 44 = .ok (.aload_n 0, 1) := dk_at k_dX5_met_0 (i := 22) rfl
theorem dX5_met_45 : decode cX5_met 45 = .ok (.getfield 21, 3) := dk_at k_dX5_met_0 (i := 23) rfl
theorem dX5_met_48 : decode cX5_met 48 = .ok (.getfield 254, 3) := dk_at k_dX5_met_0 (i := 24) rfl
theorem dX5_met_51 : decode cX5_met 51 = .ok (.iload_n 1, 1) := dk_at k_dX5_met_0 (i := 25) rfl
theorem dX5_met_52 : decode cX5_met 52 = .ok (.invokevirtual 257, 3) := dk_at k_dX5_met_0 (i := 26) rfl
theorem dX5_met_55 : decode cX5_met 55 = .ok (.aload_n 0, 1) := dk_at k_dX5_met_0 (i := 27) rfl
theorem dX5_met_56 : decode cX5_met 56 = .ok (.getfield 21, 3) := dk_at k_dX5_met_0 (i := 28) rfl
theorem dX5_met_59 : decode cX5_met 59 = .ok (.getfield 254, 3) := dk_at k_dX5_met_0 (i := 29) rfl
theorem dX5_met_62 : decode cX5_met 62 = .ok (.getfield 168, 3) := dk_at k_dX5_met_0 (i := 30) rfl
theorem dX5_met_65 : decode cX5_met 65 = .ok (.iload_n 2, 1) := dk_at k_dX5_met_0 (i := 31) rfl
theorem k_dX5_met_66 : dk cX5_met [(66, .iaload, 1), (67, .ireturn, 1)] = true := by decide +kernel
theorem dX5_met_66 : decode cX5_met 66 = .ok (.iaload, 1) := dk_at k_dX5_met_66 (i := 0) rfl
theorem dX5_met_67 : decode cX5_met 67 = .ok (.ireturn, 1) := dk_at k_dX5_met_66 (i := 1) rfl
theorem k_dX5_isSound_0 : dk cX5_isSound [(0, .iconst 0, 1), (1, .istore_n 1, 1), (2, .iload_n 1, 1), (3, .aload_n 0, 1), (4, .getfield 10, 3), (7, .getfield 47, 3), (10, .if_icmp .ge 76, 3), (13, .aload_n 0, 1), (14, .getfield 21, 3), (17, .getfield 113, 3), (20, .getfield 168, 3), (23, .iload_n 1, 1), (24, .iaload, 1), (25, .istore_n 2, 1), (26, .aload_n 0, 1), (27, .getfield 21, 3), (30, .getfield 128, 3), (33, .iload_n 1, 1), (34, .iaload, 1), (35, .istore_n 3, 1), (36, .aload_n 0, 1), (37, .getfield 21, 3), (40, .getfield 176, 3), (43, .getfield 180, 3), (46, .iload_n 1, 1), (47, .iaload, 1), (48, .istore 4, 2), (50, .iload_n 3, 1), (51, .iconst (-1), 1), (52, .if_icmp .eq 11, 3), (55, .iload_n 2, 1), (56, .iload_n 3, 1)] = true := by decide +kernel
theorem dX5_isSound_0 : decode cX5_isSound 0 = .ok (.iconst 0, 1) := dk_at k_dX5_isSound_0 (i := 0) rfl
theorem dX5_isSound_1 : decode cX5_isSound 1 = .ok (.istore_n 1, 1) := dk_at k_dX5_isSound_0 (i := 1) rfl
theorem dX5_isSound_2 : decode cX5_isSound 2 = .ok (.iload_n 1, 1) := dk_at k_dX5_isSound_0 (i := 2) rfl
theorem dX5_isSound_3 : decode cX5_isSound 3 = .ok (.aload_n 0, 1) := dk_at k_dX5_isSound_0 (i := 3) rfl
theorem dX5_isSound_4 : decode cX5_isSound 4 = .ok (.getfield 10, 3) := dk_at k_dX5_isSound_0 (i := 4) rfl
theorem dX5_isSound_7 : decode cX5_isSound 7 = .ok (.getfield 47, 3) := dk_at k_dX5_isSound_0 (i := 5) rfl
theorem dX5_isSound_10 : decode cX5_isSound 10 = .ok (.if_icmp .ge 76, 3) := dk_at k_dX5_isSound_0 (i := 6) rfl
theorem dX5_isSound_13 : decode cX5_isSound 13 = .ok (.aload_n 0, 1) := dk_at k_dX5_isSound_0 (i := 7) rfl
theorem dX5_isSound_14 : decode cX5_isSound 14 = .ok (.getfield 21, 3) := dk_at k_dX5_isSound_0 (i := 8) rfl
theorem dX5_isSound_17 : decode cX5_isSound 17 = .ok (.getfield 113, 3) := dk_at k_dX5_isSound_0 (i := 9) rfl
theorem dX5_isSound_20 : decode cX5_isSound 20 = .ok (.getfield 168, 3) := dk_at k_dX5_isSound_0 (i := 10) rfl
theorem dX5_isSound_23 : decode cX5_isSound 23 = .ok (.iload_n 1, 1) := dk_at k_dX5_isSound_0 (i := 11) rfl
theorem dX5_isSound_24 : decode cX5_isSound 24 = .ok (.iaload, 1) := dk_at k_dX5_isSound_0 (i := 12) rfl
theorem dX5_isSound_25 : decode cX5_isSound 25 = .ok (.istore_n 2, 1) := dk_at k_dX5_isSound_0 (i := 13) rfl
theorem dX5_isSound_26 : decode cX5_isSound 26 = .ok (.aload_n 0, 1) := dk_at k_dX5_isSound_0 (i := 14) rfl
theorem dX5_isSound_27 : decode cX5_isSound 27 = .ok (.getfield 21, 3) := dk_at k_dX5_isSound_0 (i := 15) rfl
theorem dX5_isSound_30 : decode cX5_isSound 30 = .ok (.getfield 128, 3) := dk_at k_dX5_isSound_0 (i := 16) rfl
theorem dX5_isSound_33 : decode cX5_isSound 33 = .ok (.iload_n 1, 1) := dk_at k_dX5_isSound_0 (i := 17) rfl
theorem dX5_isSound_34 : decode cX5_isSound 34 = .ok (.iaload, 1) := dk_at k_dX5_isSound_0 (i := 18) rfl
theorem dX5_isSound_35 : decode cX5_isSound 35 = .ok (.istore_n 3, 1) := dk_at k_dX5_isSound_0 (i := 19) rfl
theorem dX5_isSound_36 : decode cX5_isSound 36 = .ok (.aload_n 0, 1) := dk_at k_dX5_isSound_0 (i := 20) rfl
theorem dX5_isSound_37 : decode cX5_isSound 37 = .ok (.getfield 21, 3) := dk_at k_dX5_isSound_0 (i := 21) rfl
theorem dX5_isSound_40 : decode cX5_isSound 40 = .ok (.getfield 176, 3) := dk_at k_dX5_isSound_0 (i := 22) rfl
theorem dX5_isSound_43 : decode cX5_isSound 43 = .ok (.getfield 180, 3) := dk_at k_dX5_isSound_0 (i := 23) rfl
theorem dX5_isSound_46 : decode cX5_isSound 46 = .ok (.iload_n 1, 1) := dk_at k_dX5_isSound_0 (i := 24) rfl
theorem dX5_isSound_47 : decode cX5_isSound 47 = .ok (.iaload, 1) := dk_at k_dX5_isSound_0 (i := 25) rfl
theorem dX5_isSound_48 : decode cX5_isSound 48 = .ok (.istore 4, 2) := dk_at k_dX5_isSound_0 (i := 26) rfl
theorem dX5_isSound_50 : decode cX5_isSound 50 = .ok (.iload_n 3, 1) := dk_at k_dX5_isSound_0 (i := 27) rfl
theorem dX5_isSound_51 : decode cX5_isSound 51 = .ok (.iconst (-1), 1) := dk_at k_dX5_isSound_0 (i := 28) rfl
theorem dX5_isSound_52 : decode cX5_isSound 52 = .ok (.if_icmp .eq 11, 3) := dk_at k_dX5_isSound_0 (i := 29) rfl
theorem dX5_isSound_55 : decode cX5_isSound 55 = .ok (.iload_n 2, 1) := dk_at k_dX5_isSound_0 (i := 30) rfl
theorem dX5_isSound_56 : decode cX5_isSound 56 = .ok (.iload_n 3, 1) := dk_at k_dX5_isSound_0 (i := 31) rfl
theorem k_dX5_isSound_57 : dk cX5_isSound [(57, .invokestatic 142, 3), (60, .ifCond .eq 18, 3), (63, .iload 4, 2), (65, .iconst (-1), 1), (66, .if_icmp .eq 14, 3), (69, .iload_n 2, 1), (70, .iload 4, 2), (72, .invokestatic 142, 3), (75, .ifCond .ne 5, 3), (78, .iconst 0, 1), (79, .ireturn, 1), (80, .iinc 1 1, 3), (83, .goto (-81), 3), (86, .iconst 0, 1), (87, .istore_n 1, 1), (88, .iload_n 1, 1), (89, .aload_n 0, 1), (90, .getfield 10, 3), (93, .getfield 72, 3), (96, .if_icmp .ge 34, 3), (99, .aload_n 0, 1), (100, .getfield 10, 3), (103, .getfield 104, 3), (106, .iload_n 1, 1), (107, .baload, 1), (108, .ifCond .eq 16, 3), (111, .aload_n 0, 1), (112, .getfield 10, 3), (115, .iload_n 1, 1), (116, .invokevirtual 101, 3), (119, .ifCond .eq 5, 3), (122, .iconst 0, 1)] = true := by decide +kernel
theorem dX5_isSound_57 : decode cX5_isSound 57 = .ok (.invokestatic 142, 3) := dk_at k_dX5_isSound_57 (i := 0) rfl
theorem dX5_isSound_60 : decode cX5_isSound 60 = .ok (.ifCond .eq 18, 3) := dk_at k_dX5_isSound_57 (i := 1) rfl
theorem dX5_isSound_63 : decode cX5_isSound 63 = .ok (.iload 4, 2) := dk_at k_dX5_isSound_57 (i := 2) rfl
theorem dX5_isSound_65 : decode cX5_isSound 65 = .ok (.iconst (-1), 1) := dk_at k_dX5_isSound_57 (i := 3) rfl
theorem dX5_isSound_66 : decode cX5_isSound 66 = .ok (.if_icmp .eq 14, 3) := dk_at k_dX5_isSound_57 (i := 4) rfl
theorem dX5_isSound_69 : decode cX5_isSound 69 = .ok (.iload_n 2, 1) := dk_at k_dX5_isSound_57 (i := 5) rfl
theorem dX5_isSound_70 : decode cX5_isSound 70 = .ok (.iload 4, 2) := dk_at k_dX5_isSound_57 (i := 6) rfl
theorem dX5_isSound_72 : decode cX5_isSound 72 = .ok (.invokestatic 142, 3) := dk_at k_dX5_isSound_57 (i := 7) rfl
theorem dX5_isSound_75 : decode cX5_isSound 75 = .ok (.ifCond .ne 5, 3) := dk_at k_dX5_isSound_57 (i := 8) rfl
theorem dX5_isSound_78 : decode cX5_isSound 78 = .ok (.iconst 0, 1) := dk_at k_dX5_isSound_57 (i := 9) rfl
theorem dX5_isSound_79 : decode cX5_isSound 79 = .ok (.ireturn, 1) := dk_at k_dX5_isSound_57 (i := 10) rfl
theorem dX5_isSound_80 : decode cX5_isSound 80 = .ok (.iinc 1 1, 3) := dk_at k_dX5_isSound_57 (i := 11) rfl
theorem dX5_isSound_83 : decode cX5_isSound 83 = .ok (.goto (-81), 3) := dk_at k_dX5_isSound_57 (i := 12) rfl
theorem dX5_isSound_86 : decode cX5_isSound 86 = .ok (.iconst 0, 1) := dk_at k_dX5_isSound_57 (i := 13) rfl
theorem dX5_isSound_87 : decode cX5_isSound 87 = .ok (.istore_n 1, 1) := dk_at k_dX5_isSound_57 (i := 14) rfl
theorem dX5_isSound_88 : decode cX5_isSound 88 = .ok (.iload_n 1, 1) := dk_at k_dX5_isSound_57 (i := 15) rfl
theorem dX5_isSound_89 : decode cX5_isSound 89 = .ok (.aload_n 0, 1) := dk_at k_dX5_isSound_57 (i := 16) rfl
theorem dX5_isSound_90 : decode cX5_isSound 90 = .ok (.getfield 10, 3) := dk_at k_dX5_isSound_57 (i := 17) rfl
theorem dX5_isSound_93 : decode cX5_isSound 93 = .ok (.getfield 72, 3) := dk_at k_dX5_isSound_57 (i := 18) rfl
theorem dX5_isSound_96 : decode cX5_isSound 96 = .ok (.if_icmp .ge 34, 3) := dk_at k_dX5_isSound_57 (i := 19) rfl
theorem dX5_isSound_99 : decode cX5_isSound 99 = .ok (.aload_n 0, 1) := dk_at k_dX5_isSound_57 (i := 20) rfl
theorem dX5_isSound_100 : decode cX5_isSound 100 = .ok (.getfield 10, 3) := dk_at k_dX5_isSound_57 (i := 21) rfl
theorem dX5_isSound_103 : decode cX5_isSound 103 = .ok (.getfield 104, 3) := dk_at k_dX5_isSound_57 (i := 22) rfl
theorem dX5_isSound_106 : decode cX5_isSound 106 = .ok (.iload_n 1, 1) := dk_at k_dX5_isSound_57 (i := 23) rfl
theorem dX5_isSound_107 : decode cX5_isSound 107 = .ok (.baload, 1) := dk_at k_dX5_isSound_57 (i := 24) rfl
theorem dX5_isSound_108 : decode cX5_isSound 108 = .ok (.ifCond .eq 16, 3) := dk_at k_dX5_isSound_57 (i := 25) rfl
theorem dX5_isSound_111 : decode cX5_isSound 111 = .ok (.aload_n 0, 1) := dk_at k_dX5_isSound_57 (i := 26) rfl
theorem dX5_isSound_112 : decode cX5_isSound 112 = .ok (.getfield 10, 3) := dk_at k_dX5_isSound_57 (i := 27) rfl
theorem dX5_isSound_115 : decode cX5_isSound 115 = .ok (.iload_n 1, 1) := dk_at k_dX5_isSound_57 (i := 28) rfl
theorem dX5_isSound_116 : decode cX5_isSound 116 = .ok (.invokevirtual 101, 3) := dk_at k_dX5_isSound_57 (i := 29) rfl
theorem dX5_isSound_119 : decode cX5_isSound 119 = .ok (.ifCond .eq 5, 3) := dk_at k_dX5_isSound_57 (i := 30) rfl
theorem dX5_isSound_122 : decode cX5_isSound 122 = .ok (.iconst 0, 1) := dk_at k_dX5_isSound_57 (i := 31) rfl
theorem k_dX5_isSound_123 : dk cX5_isSound [(123, .ireturn, 1), (124, .iinc 1 1, 3), (127, .goto (-39), 3), (130, .iconst 0, 1), (131, .istore_n 1, 1), (132, .iload_n 1, 1), (133, .bipush 6, 2), (135, .if_icmp .ge 35, 3), (138, .aload_n 0, 1), (139, .getfield 28, 3), (142, .getfield 210, 3), (145, .iload_n 1, 1), (146, .iaload, 1), (147, .iconst (-1), 1), (148, .if_icmp .ne 16, 3), (151, .aload_n 0, 1), (152, .getfield 28, 3), (155, .iload_n 1, 1), (156, .invokevirtual 213, 3), (159, .ifCond .eq 5, 3), (162, .iconst 0, 1), (163, .ireturn, 1), (164, .iinc 1 1, 3), (167, .goto (-35), 3), (170, .aload_n 0, 1), (171, .getfield 21, 3), (174, .getfield 113, 3), (177, .getfield 117, 3), (180, .ifCond .ne 5, 3), (183, .iconst 1, 1), (184, .ireturn, 1), (185, .aload_n 0, 1)] = true := by decide +kernel
theorem dX5_isSound_123 : decode cX5_isSound 123 = .ok (.ireturn, 1) := dk_at k_dX5_isSound_123 (i := 0) rfl
theorem dX5_isSound_124 : decode cX5_isSound 124 = .ok (.iinc 1 1, 3) := dk_at k_dX5_isSound_123 (i := 1) rfl
theorem dX5_isSound_127 : decode cX5_isSound 127 = .ok (.goto (-39), 3) := dk_at k_dX5_isSound_123 (i := 2) rfl
theorem dX5_isSound_130 : decode cX5_isSound 130 = .ok (.iconst 0, 1) := dk_at k_dX5_isSound_123 (i := 3) rfl
theorem dX5_isSound_131 : decode cX5_isSound 131 = .ok (.istore_n 1, 1) := dk_at k_dX5_isSound_123 (i := 4) rfl
theorem dX5_isSound_132 : decode cX5_isSound 132 = .ok (.iload_n 1, 1) := dk_at k_dX5_isSound_123 (i := 5) rfl
theorem dX5_isSound_133 : decode cX5_isSound 133 = .ok (.bipush 6, 2) := dk_at k_dX5_isSound_123 (i := 6) rfl
theorem dX5_isSound_135 : decode cX5_isSound 135 = .ok (.if_icmp .ge 35, 3) := dk_at k_dX5_isSound_123 (i := 7) rfl
theorem dX5_isSound_138 : decode cX5_isSound 138 = .ok (.aload_n 0, 1) := dk_at k_dX5_isSound_123 (i := 8) rfl
theorem dX5_isSound_139 : decode cX5_isSound 139 = .ok (.getfield 28, 3) := dk_at k_dX5_isSound_123 (i := 9) rfl
theorem dX5_isSound_142 : decode cX5_isSound 142 = .ok (.getfield 210, 3) := dk_at k_dX5_isSound_123 (i := 10) rfl
theorem dX5_isSound_145 : decode cX5_isSound 145 = .ok (.iload_n 1, 1) := dk_at k_dX5_isSound_123 (i := 11) rfl
theorem dX5_isSound_146 : decode cX5_isSound 146 = .ok (.iaload, 1) := dk_at k_dX5_isSound_123 (i := 12) rfl
theorem dX5_isSound_147 : decode cX5_isSound 147 = .ok (.iconst (-1), 1) := dk_at k_dX5_isSound_123 (i := 13) rfl
theorem dX5_isSound_148 : decode cX5_isSound 148 = .ok (.if_icmp .ne 16, 3) := dk_at k_dX5_isSound_123 (i := 14) rfl
theorem dX5_isSound_151 : decode cX5_isSound 151 = .ok (.aload_n 0, 1) := dk_at k_dX5_isSound_123 (i := 15) rfl
theorem dX5_isSound_152 : decode cX5_isSound 152 = .ok (.getfield 28, 3) := dk_at k_dX5_isSound_123 (i := 16) rfl
theorem dX5_isSound_155 : decode cX5_isSound 155 = .ok (.iload_n 1, 1) := dk_at k_dX5_isSound_123 (i := 17) rfl
theorem dX5_isSound_156 : decode cX5_isSound 156 = .ok (.invokevirtual 213, 3) := dk_at k_dX5_isSound_123 (i := 18) rfl
theorem dX5_isSound_159 : decode cX5_isSound 159 = .ok (.ifCond .eq 5, 3) := dk_at k_dX5_isSound_123 (i := 19) rfl
theorem dX5_isSound_162 : decode cX5_isSound 162 = .ok (.iconst 0, 1) := dk_at k_dX5_isSound_123 (i := 20) rfl
theorem dX5_isSound_163 : decode cX5_isSound 163 = .ok (.ireturn, 1) := dk_at k_dX5_isSound_123 (i := 21) rfl
theorem dX5_isSound_164 : decode cX5_isSound 164 = .ok (.iinc 1 1, 3) := dk_at k_dX5_isSound_123 (i := 22) rfl
theorem dX5_isSound_167 : decode cX5_isSound 167 = .ok (.goto (-35), 3) := dk_at k_dX5_isSound_123 (i := 23) rfl
theorem dX5_isSound_170 : decode cX5_isSound 170 = .ok (.aload_n 0, 1) := dk_at k_dX5_isSound_123 (i := 24) rfl
theorem dX5_isSound_171 : decode cX5_isSound 171 = .ok (.getfield 21, 3) := dk_at k_dX5_isSound_123 (i := 25) rfl
theorem dX5_isSound_174 : decode cX5_isSound 174 = .ok (.getfield 113, 3) := dk_at k_dX5_isSound_123 (i := 26) rfl
theorem dX5_isSound_177 : decode cX5_isSound 177 = .ok (.getfield 117, 3) := dk_at k_dX5_isSound_123 (i := 27) rfl
theorem dX5_isSound_180 : decode cX5_isSound 180 = .ok (.ifCond .ne 5, 3) := dk_at k_dX5_isSound_123 (i := 28) rfl
theorem dX5_isSound_183 : decode cX5_isSound 183 = .ok (.iconst 1, 1) := dk_at k_dX5_isSound_123 (i := 29) rfl
theorem dX5_isSound_184 : decode cX5_isSound 184 = .ok (.ireturn, 1) := dk_at k_dX5_isSound_123 (i := 30) rfl
theorem dX5_isSound_185 : decode cX5_isSound 185 = .ok (.aload_n 0, 1) := dk_at k_dX5_isSound_123 (i := 31) rfl
theorem k_dX5_isSound_186 : dk cX5_isSound [(186, .getfield 21, 3), (189, .getfield 254, 3), (192, .aload_n 0, 1), (193, .getfield 21, 3), (196, .iconst (-1), 1), (197, .invokevirtual 205, 3), (200, .invokevirtual 257, 3), (203, .aload_n 0, 1), (204, .getfield 21, 3), (207, .getfield 254, 3), (210, .getfield 117, 3), (213, .ireturn, 1)] = true := by decide +kernel
theorem dX5_isSound_186 : decode cX5_isSound 186 = .ok (.getfield 21, 3) := dk_at k_dX5_isSound_186 (i := 0) rfl
theorem dX5_isSound_189 : decode cX5_isSound 189 = .ok (.getfield 254, 3) := dk_at k_dX5_isSound_186 (i := 1) rfl
theorem dX5_isSound_192 : decode cX5_isSound 192 = .ok (.aload_n 0, 1) := dk_at k_dX5_isSound_186 (i := 2) rfl
theorem dX5_isSound_193 : decode cX5_isSound 193 = .ok (.getfield 21, 3) := dk_at k_dX5_isSound_186 (i := 3) rfl
theorem dX5_isSound_196 : decode cX5_isSound 196 = .ok (.iconst (-1), 1) := dk_at k_dX5_isSound_186 (i := 4) rfl
theorem dX5_isSound_197 : decode cX5_isSound 197 = .ok (.invokevirtual 205, 3) := dk_at k_dX5_isSound_186 (i := 5) rfl
theorem dX5_isSound_200 : decode cX5_isSound 200 = .ok (.invokevirtual 257, 3) := dk_at k_dX5_isSound_186 (i := 6) rfl
theorem dX5_isSound_203 : decode cX5_isSound 203 = .ok (.aload_n 0, 1) := dk_at k_dX5_isSound_186 (i := 7) rfl
theorem dX5_isSound_204 : decode cX5_isSound 204 = .ok (.getfield 21, 3) := dk_at k_dX5_isSound_186 (i := 8) rfl
theorem dX5_isSound_207 : decode cX5_isSound 207 = .ok (.getfield 254, 3) := dk_at k_dX5_isSound_186 (i := 9) rfl
theorem dX5_isSound_210 : decode cX5_isSound 210 = .ok (.getfield 117, 3) := dk_at k_dX5_isSound_186 (i := 10) rfl
theorem dX5_isSound_213 : decode cX5_isSound 213 = .ok (.ireturn, 1) := dk_at k_dX5_isSound_186 (i := 11) rfl
theorem k_dX5_digest_0 : dk cX5_digest [(0, .ldc2_w 265, 3), (3, .lstore_n 1, 1), (4, .iconst 0, 1), (5, .istore_n 3, 1), (6, .iload_n 3, 1), (7, .bipush 8, 2), (9, .if_icmp .gt 22, 3), (12, .lload_n 1, 1), (13, .ldc2_w 267, 3), (16, .lmul, 1), (17, .aload_n 0, 1), (18, .iload_n 3, 1), (19, .invokevirtual 269, 3), (22, .i2l, 1), (23, .ladd, 1), (24, .lstore_n 1, 1), (25, .iinc 3 1, 3), (28, .goto (-22), 3), (31, .iconst 0, 1), (32, .istore_n 3, 1), (33, .iload_n 3, 1), (34, .aload_n 0, 1), (35, .getfield 10, 3), (38, .getfield 47, 3), (41, .if_icmp .ge 53, 3), (44, .iconst 0, 1), (45, .istore 4, 2), (47, .iload 4, 2), (49, .bipush 6, 2), (51, .if_icmp .gt 24, 3), (54, .lload_n 1, 1), (55, .ldc2_w 267, 3)] = true := by decide +kernel
theorem dX5_digest_0 : decode cX5_digest 0 = .ok (.ldc2_w 265, 3) := dk_at k_dX5_digest_0 (i := 0) rfl
theorem dX5_digest_3 : decode cX5_digest 3 = .ok (.lstore_n 1, 1) := dk_at k_dX5_digest_0 (i := 1) rfl
theorem dX5_digest_4 : decode cX5_digest 4 = .ok (.iconst 0, 1) := dk_at k_dX5_digest_0 (i := 2) rfl
theorem dX5_digest_5 : decode cX5_digest 5 = .ok (.istore_n 3, 1) := dk_at k_dX5_digest_0 (i := 3) rfl
theorem dX5_digest_6 : decode cX5_digest 6 = .ok (.iload_n 3, 1) := dk_at k_dX5_digest_0 (i := 4) rfl
theorem dX5_digest_7 : decode cX5_digest 7 = .ok (.bipush 8, 2) := dk_at k_dX5_digest_0 (i := 5) rfl
theorem dX5_digest_9 : decode cX5_digest 9 = .ok (.if_icmp .gt 22, 3) := dk_at k_dX5_digest_0 (i := 6) rfl
theorem dX5_digest_12 : decode cX5_digest 12 = .ok (.lload_n 1, 1) := dk_at k_dX5_digest_0 (i := 7) rfl
theorem dX5_digest_13 : decode cX5_digest 13 = .ok (.ldc2_w 267, 3) := dk_at k_dX5_digest_0 (i := 8) rfl
theorem dX5_digest_16 : decode cX5_digest 16 = .ok (.lmul, 1) := dk_at k_dX5_digest_0 (i := 9) rfl
theorem dX5_digest_17 : decode cX5_digest 17 = .ok (.aload_n 0, 1) := dk_at k_dX5_digest_0 (i := 10) rfl
theorem dX5_digest_18 : decode cX5_digest 18 = .ok (.iload_n 3, 1) := dk_at k_dX5_digest_0 (i := 11) rfl
theorem dX5_digest_19 : decode cX5_digest 19 = .ok (.invokevirtual 269, 3) := dk_at k_dX5_digest_0 (i := 12) rfl
theorem dX5_digest_22 : decode cX5_digest 22 = .ok (.i2l, 1) := dk_at k_dX5_digest_0 (i := 13) rfl
theorem dX5_digest_23 : decode cX5_digest 23 = .ok (.ladd, 1) := dk_at k_dX5_digest_0 (i := 14) rfl
theorem dX5_digest_24 : decode cX5_digest 24 = .ok (.lstore_n 1, 1) := dk_at k_dX5_digest_0 (i := 15) rfl
theorem dX5_digest_25 : decode cX5_digest 25 = .ok (.iinc 3 1, 3) := dk_at k_dX5_digest_0 (i := 16) rfl
theorem dX5_digest_28 : decode cX5_digest 28 = .ok (.goto (-22), 3) := dk_at k_dX5_digest_0 (i := 17) rfl
theorem dX5_digest_31 : decode cX5_digest 31 = .ok (.iconst 0, 1) := dk_at k_dX5_digest_0 (i := 18) rfl
theorem dX5_digest_32 : decode cX5_digest 32 = .ok (.istore_n 3, 1) := dk_at k_dX5_digest_0 (i := 19) rfl
theorem dX5_digest_33 : decode cX5_digest 33 = .ok (.iload_n 3, 1) := dk_at k_dX5_digest_0 (i := 20) rfl
theorem dX5_digest_34 : decode cX5_digest 34 = .ok (.aload_n 0, 1) := dk_at k_dX5_digest_0 (i := 21) rfl
theorem dX5_digest_35 : decode cX5_digest 35 = .ok (.getfield 10, 3) := dk_at k_dX5_digest_0 (i := 22) rfl
theorem dX5_digest_38 : decode cX5_digest 38 = .ok (.getfield 47, 3) := dk_at k_dX5_digest_0 (i := 23) rfl
theorem dX5_digest_41 : decode cX5_digest 41 = .ok (.if_icmp .ge 53, 3) := dk_at k_dX5_digest_0 (i := 24) rfl
theorem dX5_digest_44 : decode cX5_digest 44 = .ok (.iconst 0, 1) := dk_at k_dX5_digest_0 (i := 25) rfl
theorem dX5_digest_45 : decode cX5_digest 45 = .ok (.istore 4, 2) := dk_at k_dX5_digest_0 (i := 26) rfl
theorem dX5_digest_47 : decode cX5_digest 47 = .ok (.iload 4, 2) := dk_at k_dX5_digest_0 (i := 27) rfl
theorem dX5_digest_49 : decode cX5_digest 49 = .ok (.bipush 6, 2) := dk_at k_dX5_digest_0 (i := 28) rfl
theorem dX5_digest_51 : decode cX5_digest 51 = .ok (.if_icmp .gt 24, 3) := dk_at k_dX5_digest_0 (i := 29) rfl
theorem dX5_digest_54 : decode cX5_digest 54 = .ok (.lload_n 1, 1) := dk_at k_dX5_digest_0 (i := 30) rfl
theorem dX5_digest_55 : decode cX5_digest 55 = .ok (.ldc2_w 267, 3) := dk_at k_dX5_digest_0 (i := 31) rfl
theorem k_dX5_digest_58 : dk cX5_digest [(58, .lmul, 1), (59, .aload_n 0, 1), (60, .iload_n 3, 1), (61, .iload 4, 2), (63, .invokevirtual 272, 3), (66, .i2l, 1), (67, .ladd, 1), (68, .lstore_n 1, 1), (69, .iinc 4 1, 3), (72, .goto (-25), 3), (75, .lload_n 1, 1), (76, .ldc2_w 267, 3), (79, .lmul, 1), (80, .aload_n 0, 1), (81, .iload_n 3, 1), (82, .invokevirtual 276, 3), (85, .i2l, 1), (86, .ladd, 1), (87, .lstore_n 1, 1), (88, .iinc 3 1, 3), (91, .goto (-58), 3), (94, .lload_n 1, 1), (95, .ldc2_w 267, 3), (98, .lmul, 1), (99, .aload_n 0, 1), (100, .iconst (-1), 1), (101, .invokevirtual 276, 3), (104, .i2l, 1), (105, .ladd, 1), (106, .lstore_n 1, 1), (107, .iconst 0, 1), (108, .istore_n 3, 1)] = true := by decide +kernel
theorem dX5_digest_58 : decode cX5_digest 58 = .ok (.lmul, 1) := dk_at k_dX5_digest_58 (i := 0) rfl
theorem dX5_digest_59 : decode cX5_digest 59 = .ok (.aload_n 0, 1) := dk_at k_dX5_digest_58 (i := 1) rfl
theorem dX5_digest_60 : decode cX5_digest 60 = .ok (.iload_n 3, 1) := dk_at k_dX5_digest_58 (i := 2) rfl
theorem dX5_digest_61 : decode cX5_digest 61 = .ok (.iload 4, 2) := dk_at k_dX5_digest_58 (i := 3) rfl
theorem dX5_digest_63 : decode cX5_digest 63 = .ok (.invokevirtual 272, 3) := dk_at k_dX5_digest_58 (i := 4) rfl
theorem dX5_digest_66 : decode cX5_digest 66 = .ok (.i2l, 1) := dk_at k_dX5_digest_58 (i := 5) rfl
theorem dX5_digest_67 : decode cX5_digest 67 = .ok (.ladd, 1) := dk_at k_dX5_digest_58 (i := 6) rfl
theorem dX5_digest_68 : decode cX5_digest 68 = .ok (.lstore_n 1, 1) := dk_at k_dX5_digest_58 (i := 7) rfl
theorem dX5_digest_69 : decode cX5_digest 69 = .ok (.iinc 4 1, 3) := dk_at k_dX5_digest_58 (i := 8) rfl
theorem dX5_digest_72 : decode cX5_digest 72 = .ok (.goto (-25), 3) := dk_at k_dX5_digest_58 (i := 9) rfl
theorem dX5_digest_75 : decode cX5_digest 75 = .ok (.lload_n 1, 1) := dk_at k_dX5_digest_58 (i := 10) rfl
theorem dX5_digest_76 : decode cX5_digest 76 = .ok (.ldc2_w 267, 3) := dk_at k_dX5_digest_58 (i := 11) rfl
theorem dX5_digest_79 : decode cX5_digest 79 = .ok (.lmul, 1) := dk_at k_dX5_digest_58 (i := 12) rfl
theorem dX5_digest_80 : decode cX5_digest 80 = .ok (.aload_n 0, 1) := dk_at k_dX5_digest_58 (i := 13) rfl
theorem dX5_digest_81 : decode cX5_digest 81 = .ok (.iload_n 3, 1) := dk_at k_dX5_digest_58 (i := 14) rfl
theorem dX5_digest_82 : decode cX5_digest 82 = .ok (.invokevirtual 276, 3) := dk_at k_dX5_digest_58 (i := 15) rfl
theorem dX5_digest_85 : decode cX5_digest 85 = .ok (.i2l, 1) := dk_at k_dX5_digest_58 (i := 16) rfl
theorem dX5_digest_86 : decode cX5_digest 86 = .ok (.ladd, 1) := dk_at k_dX5_digest_58 (i := 17) rfl
theorem dX5_digest_87 : decode cX5_digest 87 = .ok (.lstore_n 1, 1) := dk_at k_dX5_digest_58 (i := 18) rfl
theorem dX5_digest_88 : decode cX5_digest 88 = .ok (.iinc 3 1, 3) := dk_at k_dX5_digest_58 (i := 19) rfl
theorem dX5_digest_91 : decode cX5_digest 91 = .ok (.goto (-58), 3) := dk_at k_dX5_digest_58 (i := 20) rfl
theorem dX5_digest_94 : decode cX5_digest 94 = .ok (.lload_n 1, 1) := dk_at k_dX5_digest_58 (i := 21) rfl
theorem dX5_digest_95 : decode cX5_digest 95 = .ok (.ldc2_w 267, 3) := dk_at k_dX5_digest_58 (i := 22) rfl
theorem dX5_digest_98 : decode cX5_digest 98 = .ok (.lmul, 1) := dk_at k_dX5_digest_58 (i := 23) rfl
theorem dX5_digest_99 : decode cX5_digest 99 = .ok (.aload_n 0, 1) := dk_at k_dX5_digest_58 (i := 24) rfl
theorem dX5_digest_100 : decode cX5_digest 100 = .ok (.iconst (-1), 1) := dk_at k_dX5_digest_58 (i := 25) rfl
theorem dX5_digest_101 : decode cX5_digest 101 = .ok (.invokevirtual 276, 3) := dk_at k_dX5_digest_58 (i := 26) rfl
theorem dX5_digest_104 : decode cX5_digest 104 = .ok (.i2l, 1) := dk_at k_dX5_digest_58 (i := 27) rfl
theorem dX5_digest_105 : decode cX5_digest 105 = .ok (.ladd, 1) := dk_at k_dX5_digest_58 (i := 28) rfl
theorem dX5_digest_106 : decode cX5_digest 106 = .ok (.lstore_n 1, 1) := dk_at k_dX5_digest_58 (i := 29) rfl
theorem dX5_digest_107 : decode cX5_digest 107 = .ok (.iconst 0, 1) := dk_at k_dX5_digest_58 (i := 30) rfl
theorem dX5_digest_108 : decode cX5_digest 108 = .ok (.istore_n 3, 1) := dk_at k_dX5_digest_58 (i := 31) rfl
theorem k_dX5_digest_109 : dk cX5_digest [(109, .iload_n 3, 1), (110, .aload_n 0, 1), (111, .getfield 10, 3), (114, .getfield 72, 3), (117, .if_icmp .ge 23, 3), (120, .lload_n 1, 1), (121, .ldc2_w 267, 3), (124, .lmul, 1), (125, .aload_n 0, 1), (126, .iload_n 3, 1), (127, .iconst 5, 1), (128, .invokevirtual 279, 3), (131, .i2l, 1), (132, .ladd, 1), (133, .lstore_n 1, 1), (134, .iinc 3 1, 3), (137, .goto (-28), 3), (140, .aload_n 0, 1), (141, .aload_n 0, 1), (142, .lload_n 1, 1), (143, .invokevirtual 282, 3), (146, .invokevirtual 286, 3), (149, .lstore_n 1, 1), (150, .lload_n 1, 1), (151, .ldc2_w 267, 3), (154, .lmul, 1), (155, .aload_n 0, 1), (156, .invokevirtual 289, 3), (159, .ifCond .eq 7, 3), (162, .iconst 1, 1), (163, .goto 4, 3), (166, .iconst 0, 1)] = true := by decide +kernel
theorem dX5_digest_109 : decode cX5_digest 109 = .ok (.iload_n 3, 1) := dk_at k_dX5_digest_109 (i := 0) rfl
theorem dX5_digest_110 : decode cX5_digest 110 = .ok (.aload_n 0, 1) := dk_at k_dX5_digest_109 (i := 1) rfl
theorem dX5_digest_111 : decode cX5_digest 111 = .ok (.getfield 10, 3) := dk_at k_dX5_digest_109 (i := 2) rfl
theorem dX5_digest_114 : decode cX5_digest 114 = .ok (.getfield 72, 3) := dk_at k_dX5_digest_109 (i := 3) rfl
theorem dX5_digest_117 : decode cX5_digest 117 = .ok (.if_icmp .ge 23, 3) := dk_at k_dX5_digest_109 (i := 4) rfl
theorem dX5_digest_120 : decode cX5_digest 120 = .ok (.lload_n 1, 1) := dk_at k_dX5_digest_109 (i := 5) rfl
theorem dX5_digest_121 : decode cX5_digest 121 = .ok (.ldc2_w 267, 3) := dk_at k_dX5_digest_109 (i := 6) rfl
theorem dX5_digest_124 : decode cX5_digest 124 = .ok (.lmul, 1) := dk_at k_dX5_digest_109 (i := 7) rfl
theorem dX5_digest_125 : decode cX5_digest 125 = .ok (.aload_n 0, 1) := dk_at k_dX5_digest_109 (i := 8) rfl
theorem dX5_digest_126 : decode cX5_digest 126 = .ok (.iload_n 3, 1) := dk_at k_dX5_digest_109 (i := 9) rfl
theorem dX5_digest_127 : decode cX5_digest 127 = .ok (.iconst 5, 1) := dk_at k_dX5_digest_109 (i := 10) rfl
theorem dX5_digest_128 : decode cX5_digest 128 = .ok (.invokevirtual 279, 3) := dk_at k_dX5_digest_109 (i := 11) rfl
theorem dX5_digest_131 : decode cX5_digest 131 = .ok (.i2l, 1) := dk_at k_dX5_digest_109 (i := 12) rfl
theorem dX5_digest_132 : decode cX5_digest 132 = .ok (.ladd, 1) := dk_at k_dX5_digest_109 (i := 13) rfl
theorem dX5_digest_133 : decode cX5_digest 133 = .ok (.lstore_n 1, 1) := dk_at k_dX5_digest_109 (i := 14) rfl
theorem dX5_digest_134 : decode cX5_digest 134 = .ok (.iinc 3 1, 3) := dk_at k_dX5_digest_109 (i := 15) rfl
theorem dX5_digest_137 : decode cX5_digest 137 = .ok (.goto (-28), 3) := dk_at k_dX5_digest_109 (i := 16) rfl
theorem dX5_digest_140 : decode cX5_digest 140 = .ok (.aload_n 0, 1) := dk_at k_dX5_digest_109 (i := 17) rfl
theorem dX5_digest_141 : decode cX5_digest 141 = .ok (.aload_n 0, 1) := dk_at k_dX5_digest_109 (i := 18) rfl
theorem dX5_digest_142 : decode cX5_digest 142 = .ok (.lload_n 1, 1) := dk_at k_dX5_digest_109 (i := 19) rfl
theorem dX5_digest_143 : decode cX5_digest 143 = .ok (.invokevirtual 282, 3) := dk_at k_dX5_digest_109 (i := 20) rfl
theorem dX5_digest_146 : decode cX5_digest 146 = .ok (.invokevirtual 286, 3) := dk_at k_dX5_digest_109 (i := 21) rfl
theorem dX5_digest_149 : decode cX5_digest 149 = .ok (.lstore_n 1, 1) := dk_at k_dX5_digest_109 (i := 22) rfl
theorem dX5_digest_150 : decode cX5_digest 150 = .ok (.lload_n 1, 1) := dk_at k_dX5_digest_109 (i := 23) rfl
theorem dX5_digest_151 : decode cX5_digest 151 = .ok (.ldc2_w 267, 3) := dk_at k_dX5_digest_109 (i := 24) rfl
theorem dX5_digest_154 : decode cX5_digest 154 = .ok (.lmul, 1) := dk_at k_dX5_digest_109 (i := 25) rfl
theorem dX5_digest_155 : decode cX5_digest 155 = .ok (.aload_n 0, 1) := dk_at k_dX5_digest_109 (i := 26) rfl
theorem dX5_digest_156 : decode cX5_digest 156 = .ok (.invokevirtual 289, 3) := dk_at k_dX5_digest_109 (i := 27) rfl
theorem dX5_digest_159 : decode cX5_digest 159 = .ok (.ifCond .eq 7, 3) := dk_at k_dX5_digest_109 (i := 28) rfl
theorem dX5_digest_162 : decode cX5_digest 162 = .ok (.iconst 1, 1) := dk_at k_dX5_digest_109 (i := 29) rfl
theorem dX5_digest_163 : decode cX5_digest 163 = .ok (.goto 4, 3) := dk_at k_dX5_digest_109 (i := 30) rfl
theorem dX5_digest_166 : decode cX5_digest 166 = .ok (.iconst 0, 1) := dk_at k_dX5_digest_109 (i := 31) rfl
theorem k_dX5_digest_167 : dk cX5_digest [(167, .i2l, 1), (168, .ladd, 1), (169, .lreturn, 1)] = true := by decide +kernel
theorem dX5_digest_167 : decode cX5_digest 167 = .ok (.i2l, 1) := dk_at k_dX5_digest_167 (i := 0) rfl
theorem dX5_digest_168 : decode cX5_digest 168 = .ok (.ladd, 1) := dk_at k_dX5_digest_167 (i := 1) rfl
theorem dX5_digest_169 : decode cX5_digest 169 = .ok (.lreturn, 1) := dk_at k_dX5_digest_167 (i := 2) rfl
theorem k_dX5_sumOfMachines_0 : dk cX5_sumOfMachines [(0, .lload_n 1, 1), (1, .lstore_n 3, 1), (2, .iconst 0, 1), (3, .istore 5, 2), (5, .iload 5, 2), (7, .bipush 6, 2), (9, .if_icmp .ge 77, 3), (12, .iconst 0, 1), (13, .istore 6, 2), (15, .iload 6, 2), (17, .iconst 2, 1), (18, .if_icmp .gt 25, 3), (21, .lload_n 3, 1), (22, .ldc2_w 267, 3), (25, .lmul, 1), (26, .aload_n 0, 1), (27, .iload 5, 2), (29, .iload 6, 2), (31, .invokevirtual 293, 3), (34, .i2l, 1), (35, .ladd, 1), (36, .lstore_n 3, 1), (37, .iinc 6 1, 3), (40, .goto (-25), 3), (43, .iconst 0, 1), (44, .istore 6, 2), (46, .iload 6, 2), (48, .aload_n 0, 1), (49, .getfield 10, 3), (52, .getfield 47, 3), (55, .if_icmp .ge 25, 3), (58, .lload_n 3, 1)] = true := by decide +kernel
theorem dX5_sumOfMachines_0 : decode cX5_sumOfMachines 0 = .ok (.lload_n 1, 1) := dk_at k_dX5_sumOfMachines_0 (i := 0) rfl
theorem dX5_sumOfMachines_1 : decode cX5_sumOfMachines 1 = .ok (.lstore_n 3, 1) := dk_at k_dX5_sumOfMachines_0 (i := 1) rfl
theorem dX5_sumOfMachines_2 : decode cX5_sumOfMachines 2 = .ok (.iconst 0, 1) := dk_at k_dX5_sumOfMachines_0 (i := 2) rfl
theorem dX5_sumOfMachines_3 : decode cX5_sumOfMachines 3 = .ok (.istore 5, 2) := dk_at k_dX5_sumOfMachines_0 (i := 3) rfl
theorem dX5_sumOfMachines_5 : decode cX5_sumOfMachines 5 = .ok (.iload 5, 2) := dk_at k_dX5_sumOfMachines_0 (i := 4) rfl
theorem dX5_sumOfMachines_7 : decode cX5_sumOfMachines 7 = .ok (.bipush 6, 2) := dk_at k_dX5_sumOfMachines_0 (i := 5) rfl
theorem dX5_sumOfMachines_9 : decode cX5_sumOfMachines 9 = .ok (.if_icmp .ge 77, 3) := dk_at k_dX5_sumOfMachines_0 (i := 6) rfl
theorem dX5_sumOfMachines_12 : decode cX5_sumOfMachines 12 = .ok (.iconst 0, 1) := dk_at k_dX5_sumOfMachines_0 (i := 7) rfl
theorem dX5_sumOfMachines_13 : decode cX5_sumOfMachines 13 = .ok (.istore 6, 2) := dk_at k_dX5_sumOfMachines_0 (i := 8) rfl
theorem dX5_sumOfMachines_15 : decode cX5_sumOfMachines 15 = .ok (.iload 6, 2) := dk_at k_dX5_sumOfMachines_0 (i := 9) rfl
theorem dX5_sumOfMachines_17 : decode cX5_sumOfMachines 17 = .ok (.iconst 2, 1) := dk_at k_dX5_sumOfMachines_0 (i := 10) rfl
theorem dX5_sumOfMachines_18 : decode cX5_sumOfMachines 18 = .ok (.if_icmp .gt 25, 3) := dk_at k_dX5_sumOfMachines_0 (i := 11) rfl
theorem dX5_sumOfMachines_21 : decode cX5_sumOfMachines 21 = .ok (.lload_n 3, 1) := dk_at k_dX5_sumOfMachines_0 (i := 12) rfl
theorem dX5_sumOfMachines_22 : decode cX5_sumOfMachines 22 = .ok (.ldc2_w 267, 3) := dk_at k_dX5_sumOfMachines_0 (i := 13) rfl
theorem dX5_sumOfMachines_25 : decode cX5_sumOfMachines 25 = .ok (.lmul, 1) := dk_at k_dX5_sumOfMachines_0 (i := 14) rfl
theorem dX5_sumOfMachines_26 : decode cX5_sumOfMachines 26 = .ok (.aload_n 0, 1) := dk_at k_dX5_sumOfMachines_0 (i := 15) rfl
theorem dX5_sumOfMachines_27 : decode cX5_sumOfMachines 27 = .ok (.iload 5, 2) := dk_at k_dX5_sumOfMachines_0 (i := 16) rfl
theorem dX5_sumOfMachines_29 : decode cX5_sumOfMachines 29 = .ok (.iload 6, 2) := dk_at k_dX5_sumOfMachines_0 (i := 17) rfl
theorem dX5_sumOfMachines_31 : decode cX5_sumOfMachines 31 = .ok (.invokevirtual 293, 3) := dk_at k_dX5_sumOfMachines_0 (i := 18) rfl
theorem dX5_sumOfMachines_34 : decode cX5_sumOfMachines 34 = .ok (.i2l, 1) := dk_at k_dX5_sumOfMachines_0 (i := 19) rfl
theorem dX5_sumOfMachines_35 : decode cX5_sumOfMachines 35 = .ok (.ladd, 1) := dk_at k_dX5_sumOfMachines_0 (i := 20) rfl
theorem dX5_sumOfMachines_36 : decode cX5_sumOfMachines 36 = .ok (.lstore_n 3, 1) := dk_at k_dX5_sumOfMachines_0 (i := 21) rfl
theorem dX5_sumOfMachines_37 : decode cX5_sumOfMachines 37 = .ok (.iinc 6 1, 3) := dk_at k_dX5_sumOfMachines_0 (i := 22) rfl
theorem dX5_sumOfMachines_40 : decode cX5_sumOfMachines 40 = .ok (.goto (-25), 3) := dk_at k_dX5_sumOfMachines_0 (i := 23) rfl
theorem dX5_sumOfMachines_43 : decode cX5_sumOfMachines 43 = .ok (.iconst 0, 1) := dk_at k_dX5_sumOfMachines_0 (i := 24) rfl
theorem dX5_sumOfMachines_44 : decode cX5_sumOfMachines 44 = .ok (.istore 6, 2) := dk_at k_dX5_sumOfMachines_0 (i := 25) rfl
theorem dX5_sumOfMachines_46 : decode cX5_sumOfMachines 46 = .ok (.iload 6, 2) := dk_at k_dX5_sumOfMachines_0 (i := 26) rfl
theorem dX5_sumOfMachines_48 : decode cX5_sumOfMachines 48 = .ok (.aload_n 0, 1) := dk_at k_dX5_sumOfMachines_0 (i := 27) rfl
theorem dX5_sumOfMachines_49 : decode cX5_sumOfMachines 49 = .ok (.getfield 10, 3) := dk_at k_dX5_sumOfMachines_0 (i := 28) rfl
theorem dX5_sumOfMachines_52 : decode cX5_sumOfMachines 52 = .ok (.getfield 47, 3) := dk_at k_dX5_sumOfMachines_0 (i := 29) rfl
theorem dX5_sumOfMachines_55 : decode cX5_sumOfMachines 55 = .ok (.if_icmp .ge 25, 3) := dk_at k_dX5_sumOfMachines_0 (i := 30) rfl
theorem dX5_sumOfMachines_58 : decode cX5_sumOfMachines 58 = .ok (.lload_n 3, 1) := dk_at k_dX5_sumOfMachines_0 (i := 31) rfl
theorem k_dX5_sumOfMachines_59 : dk cX5_sumOfMachines [(59, .ldc2_w 267, 3), (62, .lmul, 1), (63, .aload_n 0, 1), (64, .iload 5, 2), (66, .iload 6, 2), (68, .invokevirtual 296, 3), (71, .i2l, 1), (72, .ladd, 1), (73, .lstore_n 3, 1), (74, .iinc 6 1, 3), (77, .goto (-31), 3), (80, .iinc 5 1, 3), (83, .goto (-78), 3), (86, .lload_n 3, 1), (87, .lreturn, 1)] = true := by decide +kernel
theorem dX5_sumOfMachines_59 : decode cX5_sumOfMachines 59 = .ok (.ldc2_w 267, 3) := dk_at k_dX5_sumOfMachines_59 (i := 0) rfl
theorem dX5_sumOfMachines_62 : decode cX5_sumOfMachines 62 = .ok (.lmul, 1) := dk_at k_dX5_sumOfMachines_59 (i := 1) rfl
theorem dX5_sumOfMachines_63 : decode cX5_sumOfMachines 63 = .ok (.aload_n 0, 1) := dk_at k_dX5_sumOfMachines_59 (i := 2) rfl
theorem dX5_sumOfMachines_64 : decode cX5_sumOfMachines 64 = .ok (.iload 5, 2) := dk_at k_dX5_sumOfMachines_59 (i := 3) rfl
theorem dX5_sumOfMachines_66 : decode cX5_sumOfMachines 66 = .ok (.iload 6, 2) := dk_at k_dX5_sumOfMachines_59 (i := 4) rfl
theorem dX5_sumOfMachines_68 : decode cX5_sumOfMachines 68 = .ok (.invokevirtual 296, 3) := dk_at k_dX5_sumOfMachines_59 (i := 5) rfl
theorem dX5_sumOfMachines_71 : decode cX5_sumOfMachines 71 = .ok (.i2l, 1) := dk_at k_dX5_sumOfMachines_59 (i := 6) rfl
theorem dX5_sumOfMachines_72 : decode cX5_sumOfMachines 72 = .ok (.ladd, 1) := dk_at k_dX5_sumOfMachines_59 (i := 7) rfl
theorem dX5_sumOfMachines_73 : decode cX5_sumOfMachines 73 = .ok (.lstore_n 3, 1) := dk_at k_dX5_sumOfMachines_59 (i := 8) rfl
theorem dX5_sumOfMachines_74 : decode cX5_sumOfMachines 74 = .ok (.iinc 6 1, 3) := dk_at k_dX5_sumOfMachines_59 (i := 9) rfl
theorem dX5_sumOfMachines_77 : decode cX5_sumOfMachines 77 = .ok (.goto (-31), 3) := dk_at k_dX5_sumOfMachines_59 (i := 10) rfl
theorem dX5_sumOfMachines_80 : decode cX5_sumOfMachines 80 = .ok (.iinc 5 1, 3) := dk_at k_dX5_sumOfMachines_59 (i := 11) rfl
theorem dX5_sumOfMachines_83 : decode cX5_sumOfMachines 83 = .ok (.goto (-78), 3) := dk_at k_dX5_sumOfMachines_59 (i := 12) rfl
theorem dX5_sumOfMachines_86 : decode cX5_sumOfMachines 86 = .ok (.lload_n 3, 1) := dk_at k_dX5_sumOfMachines_59 (i := 13) rfl
theorem dX5_sumOfMachines_87 : decode cX5_sumOfMachines 87 = .ok (.lreturn, 1) := dk_at k_dX5_sumOfMachines_59 (i := 14) rfl
theorem k_dX5_sumOfCommits_0 : dk cX5_sumOfCommits [(0, .lload_n 1, 1), (1, .lstore_n 3, 1), (2, .iconst 0, 1), (3, .istore 5, 2), (5, .iload 5, 2), (7, .aload_n 0, 1), (8, .getfield 28, 3), (11, .getfield 123, 3), (14, .if_icmp .ge 46, 3), (17, .iconst 0, 1), (18, .istore 6, 2), (20, .iload 6, 2), (22, .aload_n 0, 1), (23, .getfield 10, 3), (26, .getfield 47, 3), (29, .if_icmp .ge 25, 3), (32, .lload_n 3, 1), (33, .ldc2_w 267, 3), (36, .lmul, 1), (37, .aload_n 0, 1), (38, .iload 5, 2), (40, .iload 6, 2), (42, .invokevirtual 299, 3), (45, .i2l, 1), (46, .ladd, 1), (47, .lstore_n 3, 1), (48, .iinc 6 1, 3), (51, .goto (-31), 3), (54, .iinc 5 1, 3), (57, .goto (-52), 3), (60, .lload_n 3, 1), (61, .lreturn, 1)] = true := by decide +kernel
theorem dX5_sumOfCommits_0 : decode cX5_sumOfCommits 0 = .ok (.lload_n 1, 1) := dk_at k_dX5_sumOfCommits_0 (i := 0) rfl
theorem dX5_sumOfCommits_1 : decode cX5_sumOfCommits 1 = .ok (.lstore_n 3, 1) := dk_at k_dX5_sumOfCommits_0 (i := 1) rfl
theorem dX5_sumOfCommits_2 : decode cX5_sumOfCommits 2 = .ok (.iconst 0, 1) := dk_at k_dX5_sumOfCommits_0 (i := 2) rfl
theorem dX5_sumOfCommits_3 : decode cX5_sumOfCommits 3 = .ok (.istore 5, 2) := dk_at k_dX5_sumOfCommits_0 (i := 3) rfl
theorem dX5_sumOfCommits_5 : decode cX5_sumOfCommits 5 = .ok (.iload 5, 2) := dk_at k_dX5_sumOfCommits_0 (i := 4) rfl
theorem dX5_sumOfCommits_7 : decode cX5_sumOfCommits 7 = .ok (.aload_n 0, 1) := dk_at k_dX5_sumOfCommits_0 (i := 5) rfl
theorem dX5_sumOfCommits_8 : decode cX5_sumOfCommits 8 = .ok (.getfield 28, 3) := dk_at k_dX5_sumOfCommits_0 (i := 6) rfl
theorem dX5_sumOfCommits_11 : decode cX5_sumOfCommits 11 = .ok (.getfield 123, 3) := dk_at k_dX5_sumOfCommits_0 (i := 7) rfl
theorem dX5_sumOfCommits_14 : decode cX5_sumOfCommits 14 = .ok (.if_icmp .ge 46, 3) := dk_at k_dX5_sumOfCommits_0 (i := 8) rfl
theorem dX5_sumOfCommits_17 : decode cX5_sumOfCommits 17 = .ok (.iconst 0, 1) := dk_at k_dX5_sumOfCommits_0 (i := 9) rfl
theorem dX5_sumOfCommits_18 : decode cX5_sumOfCommits 18 = .ok (.istore 6, 2) := dk_at k_dX5_sumOfCommits_0 (i := 10) rfl
theorem dX5_sumOfCommits_20 : decode cX5_sumOfCommits 20 = .ok (.iload 6, 2) := dk_at k_dX5_sumOfCommits_0 (i := 11) rfl
theorem dX5_sumOfCommits_22 : decode cX5_sumOfCommits 22 = .ok (.aload_n 0, 1) := dk_at k_dX5_sumOfCommits_0 (i := 12) rfl
theorem dX5_sumOfCommits_23 : decode cX5_sumOfCommits 23 = .ok (.getfield 10, 3) := dk_at k_dX5_sumOfCommits_0 (i := 13) rfl
theorem dX5_sumOfCommits_26 : decode cX5_sumOfCommits 26 = .ok (.getfield 47, 3) := dk_at k_dX5_sumOfCommits_0 (i := 14) rfl
theorem dX5_sumOfCommits_29 : decode cX5_sumOfCommits 29 = .ok (.if_icmp .ge 25, 3) := dk_at k_dX5_sumOfCommits_0 (i := 15) rfl
theorem dX5_sumOfCommits_32 : decode cX5_sumOfCommits 32 = .ok (.lload_n 3, 1) := dk_at k_dX5_sumOfCommits_0 (i := 16) rfl
theorem dX5_sumOfCommits_33 : decode cX5_sumOfCommits 33 = .ok (.ldc2_w 267, 3) := dk_at k_dX5_sumOfCommits_0 (i := 17) rfl
theorem dX5_sumOfCommits_36 : decode cX5_sumOfCommits 36 = .ok (.lmul, 1) := dk_at k_dX5_sumOfCommits_0 (i := 18) rfl
theorem dX5_sumOfCommits_37 : decode cX5_sumOfCommits 37 = .ok (.aload_n 0, 1) := dk_at k_dX5_sumOfCommits_0 (i := 19) rfl
theorem dX5_sumOfCommits_38 : decode cX5_sumOfCommits 38 = .ok (.iload 5, 2) := dk_at k_dX5_sumOfCommits_0 (i := 20) rfl
theorem dX5_sumOfCommits_40 : decode cX5_sumOfCommits 40 = .ok (.iload 6, 2) := dk_at k_dX5_sumOfCommits_0 (i := 21) rfl
theorem dX5_sumOfCommits_42 : decode cX5_sumOfCommits 42 = .ok (.invokevirtual 299, 3) := dk_at k_dX5_sumOfCommits_0 (i := 22) rfl
theorem dX5_sumOfCommits_45 : decode cX5_sumOfCommits 45 = .ok (.i2l, 1) := dk_at k_dX5_sumOfCommits_0 (i := 23) rfl
theorem dX5_sumOfCommits_46 : decode cX5_sumOfCommits 46 = .ok (.ladd, 1) := dk_at k_dX5_sumOfCommits_0 (i := 24) rfl
theorem dX5_sumOfCommits_47 : decode cX5_sumOfCommits 47 = .ok (.lstore_n 3, 1) := dk_at k_dX5_sumOfCommits_0 (i := 25) rfl
theorem dX5_sumOfCommits_48 : decode cX5_sumOfCommits 48 = .ok (.iinc 6 1, 3) := dk_at k_dX5_sumOfCommits_0 (i := 26) rfl
theorem dX5_sumOfCommits_51 : decode cX5_sumOfCommits 51 = .ok (.goto (-31), 3) := dk_at k_dX5_sumOfCommits_0 (i := 27) rfl
theorem dX5_sumOfCommits_54 : decode cX5_sumOfCommits 54 = .ok (.iinc 5 1, 3) := dk_at k_dX5_sumOfCommits_0 (i := 28) rfl
theorem dX5_sumOfCommits_57 : decode cX5_sumOfCommits 57 = .ok (.goto (-52), 3) := dk_at k_dX5_sumOfCommits_0 (i := 29) rfl
theorem dX5_sumOfCommits_60 : decode cX5_sumOfCommits 60 = .ok (.lload_n 3, 1) := dk_at k_dX5_sumOfCommits_0 (i := 30) rfl
theorem dX5_sumOfCommits_61 : decode cX5_sumOfCommits 61 = .ok (.lreturn, 1) := dk_at k_dX5_sumOfCommits_0 (i := 31) rfl
theorem k_dX5_tell_0 : dk cX5_tell [(0, .aload_n 0, 1), (1, .getfield 10, 3), (4, .iload_n 1, 1), (5, .iload_n 2, 1), (6, .iload_n 3, 1), (7, .iload 4, 2), (9, .iload 5, 2), (11, .invokevirtual 302, 3), (14, .istore 6, 2), (16, .aload_n 0, 1), (17, .getfield 21, 3), (20, .invokevirtual 59, 3), (23, .iload 6, 2), (25, .ireturn, 1)] = true := by decide +kernel
theorem dX5_tell_0 : decode cX5_tell 0 = .ok (.aload_n 0, 1) := dk_at k_dX5_tell_0 (i := 0) rfl
theorem dX5_tell_1 : decode cX5_tell 1 = .ok (.getfield 10, 3) := dk_at k_dX5_tell_0 (i := 1) rfl
theorem dX5_tell_4 : decode cX5_tell 4 = .ok (.iload_n 1, 1) := dk_at k_dX5_tell_0 (i := 2) rfl
theorem dX5_tell_5 : decode cX5_tell 5 = .ok (.iload_n 2, 1) := dk_at k_dX5_tell_0 (i := 3) rfl
theorem dX5_tell_6 : decode cX5_tell 6 = .ok (.iload_n 3, 1) := dk_at k_dX5_tell_0 (i := 4) rfl
theorem dX5_tell_7 : decode cX5_tell 7 = .ok (.iload 4, 2) := dk_at k_dX5_tell_0 (i := 5) rfl
theorem dX5_tell_9 : decode cX5_tell 9 = .ok (.iload 5, 2) := dk_at k_dX5_tell_0 (i := 6) rfl
theorem dX5_tell_11 : decode cX5_tell 11 = .ok (.invokevirtual 302, 3) := dk_at k_dX5_tell_0 (i := 7) rfl
theorem dX5_tell_14 : decode cX5_tell 14 = .ok (.istore 6, 2) := dk_at k_dX5_tell_0 (i := 8) rfl
theorem dX5_tell_16 : decode cX5_tell 16 = .ok (.aload_n 0, 1) := dk_at k_dX5_tell_0 (i := 9) rfl
theorem dX5_tell_17 : decode cX5_tell 17 = .ok (.getfield 21, 3) := dk_at k_dX5_tell_0 (i := 10) rfl
theorem dX5_tell_20 : decode cX5_tell 20 = .ok (.invokevirtual 59, 3) := dk_at k_dX5_tell_0 (i := 11) rfl
theorem dX5_tell_23 : decode cX5_tell 23 = .ok (.iload 6, 2) := dk_at k_dX5_tell_0 (i := 12) rfl
theorem dX5_tell_25 : decode cX5_tell 25 = .ok (.ireturn, 1) := dk_at k_dX5_tell_0 (i := 13) rfl
theorem k_dX5_isField_0 : dk cX5_isField [(0, .iload_n 1, 1), (1, .ifCond .lt 18, 3), (4, .iload_n 1, 1), (5, .aload_n 0, 1), (6, .getfield 10, 3), (9, .getfield 47, 3), (12, .if_icmp .ge 7, 3), (15, .iconst 1, 1), (16, .goto 4, 3), (19, .iconst 0, 1), (20, .ireturn, 1)] = true := by decide +kernel
theorem dX5_isField_0 : decode cX5_isField 0 = .ok (.iload_n 1, 1) := dk_at k_dX5_isField_0 (i := 0) rfl
theorem dX5_isField_1 : decode cX5_isField 1 = .ok (.ifCond .lt 18, 3) := dk_at k_dX5_isField_0 (i := 1) rfl
theorem dX5_isField_4 : decode cX5_isField 4 = .ok (.iload_n 1, 1) := dk_at k_dX5_isField_0 (i := 2) rfl
theorem dX5_isField_5 : decode cX5_isField 5 = .ok (.aload_n 0, 1) := dk_at k_dX5_isField_0 (i := 3) rfl
theorem dX5_isField_6 : decode cX5_isField 6 = .ok (.getfield 10, 3) := dk_at k_dX5_isField_0 (i := 4) rfl
theorem dX5_isField_9 : decode cX5_isField 9 = .ok (.getfield 47, 3) := dk_at k_dX5_isField_0 (i := 5) rfl
theorem dX5_isField_12 : decode cX5_isField 12 = .ok (.if_icmp .ge 7, 3) := dk_at k_dX5_isField_0 (i := 6) rfl
theorem dX5_isField_15 : decode cX5_isField 15 = .ok (.iconst 1, 1) := dk_at k_dX5_isField_0 (i := 7) rfl
theorem dX5_isField_16 : decode cX5_isField 16 = .ok (.goto 4, 3) := dk_at k_dX5_isField_0 (i := 8) rfl
theorem dX5_isField_19 : decode cX5_isField 19 = .ok (.iconst 0, 1) := dk_at k_dX5_isField_0 (i := 9) rfl
theorem dX5_isField_20 : decode cX5_isField 20 = .ok (.ireturn, 1) := dk_at k_dX5_isField_0 (i := 10) rfl
theorem k_dX5_isLine_0 : dk cX5_isLine [(0, .iload_n 1, 1), (1, .ifCond .lt 18, 3), (4, .iload_n 1, 1), (5, .aload_n 0, 1), (6, .getfield 10, 3), (9, .getfield 72, 3), (12, .if_icmp .ge 7, 3), (15, .iconst 1, 1), (16, .goto 4, 3), (19, .iconst 0, 1), (20, .ireturn, 1)] = true := by decide +kernel
theorem dX5_isLine_0 : decode cX5_isLine 0 = .ok (.iload_n 1, 1) := dk_at k_dX5_isLine_0 (i := 0) rfl
theorem dX5_isLine_1 : decode cX5_isLine 1 = .ok (.ifCond .lt 18, 3) := dk_at k_dX5_isLine_0 (i := 1) rfl
theorem dX5_isLine_4 : decode cX5_isLine 4 = .ok (.iload_n 1, 1) := dk_at k_dX5_isLine_0 (i := 2) rfl
theorem dX5_isLine_5 : decode cX5_isLine 5 = .ok (.aload_n 0, 1) := dk_at k_dX5_isLine_0 (i := 3) rfl
theorem dX5_isLine_6 : decode cX5_isLine 6 = .ok (.getfield 10, 3) := dk_at k_dX5_isLine_0 (i := 4) rfl
theorem dX5_isLine_9 : decode cX5_isLine 9 = .ok (.getfield 72, 3) := dk_at k_dX5_isLine_0 (i := 5) rfl
theorem dX5_isLine_12 : decode cX5_isLine 12 = .ok (.if_icmp .ge 7, 3) := dk_at k_dX5_isLine_0 (i := 6) rfl
theorem dX5_isLine_15 : decode cX5_isLine 15 = .ok (.iconst 1, 1) := dk_at k_dX5_isLine_0 (i := 7) rfl
theorem dX5_isLine_16 : decode cX5_isLine 16 = .ok (.goto 4, 3) := dk_at k_dX5_isLine_0 (i := 8) rfl
theorem dX5_isLine_19 : decode cX5_isLine 19 = .ok (.iconst 0, 1) := dk_at k_dX5_isLine_0 (i := 9) rfl
theorem dX5_isLine_20 : decode cX5_isLine 20 = .ok (.ireturn, 1) := dk_at k_dX5_isLine_0 (i := 10) rfl
theorem k_dX5_isCommit_0 : dk cX5_isCommit [(0, .iload_n 1, 1), (1, .ifCond .lt 18, 3), (4, .iload_n 1, 1), (5, .aload_n 0, 1), (6, .getfield 28, 3), (9, .getfield 123, 3), (12, .if_icmp .ge 7, 3), (15, .iconst 1, 1), (16, .goto 4, 3), (19, .iconst 0, 1), (20, .ireturn, 1)] = true := by decide +kernel
theorem dX5_isCommit_0 : decode cX5_isCommit 0 = .ok (.iload_n 1, 1) := dk_at k_dX5_isCommit_0 (i := 0) rfl
theorem dX5_isCommit_1 : decode cX5_isCommit 1 = .ok (.ifCond .lt 18, 3) := dk_at k_dX5_isCommit_0 (i := 1) rfl
theorem dX5_isCommit_4 : decode cX5_isCommit 4 = .ok (.iload_n 1, 1) := dk_at k_dX5_isCommit_0 (i := 2) rfl
theorem dX5_isCommit_5 : decode cX5_isCommit 5 = .ok (.aload_n 0, 1) := dk_at k_dX5_isCommit_0 (i := 3) rfl
theorem dX5_isCommit_6 : decode cX5_isCommit 6 = .ok (.getfield 28, 3) := dk_at k_dX5_isCommit_0 (i := 4) rfl
theorem dX5_isCommit_9 : decode cX5_isCommit 9 = .ok (.getfield 123, 3) := dk_at k_dX5_isCommit_0 (i := 5) rfl
theorem dX5_isCommit_12 : decode cX5_isCommit 12 = .ok (.if_icmp .ge 7, 3) := dk_at k_dX5_isCommit_0 (i := 6) rfl
theorem dX5_isCommit_15 : decode cX5_isCommit 15 = .ok (.iconst 1, 1) := dk_at k_dX5_isCommit_0 (i := 7) rfl
theorem dX5_isCommit_16 : decode cX5_isCommit 16 = .ok (.goto 4, 3) := dk_at k_dX5_isCommit_0 (i := 8) rfl
theorem dX5_isCommit_19 : decode cX5_isCommit 19 = .ok (.iconst 0, 1) := dk_at k_dX5_isCommit_0 (i := 9) rfl
theorem dX5_isCommit_20 : decode cX5_isCommit 20 = .ok (.ireturn, 1) := dk_at k_dX5_isCommit_0 (i := 10) rfl
theorem k_dX5_isMachine_0 : dk cX5_isMachine [(0, .iload_n 0, 1), (1, .ifCond .lt 13, 3), (4, .iload_n 0, 1), (5, .bipush 6, 2), (7, .if_icmp .ge 7, 3), (10, .iconst 1, 1), (11, .goto 4, 3), (14, .iconst 0, 1), (15, .ireturn, 1)] = true := by decide +kernel
theorem dX5_isMachine_0 : decode cX5_isMachine 0 = .ok (.iload_n 0, 1) := dk_at k_dX5_isMachine_0 (i := 0) rfl
theorem dX5_isMachine_1 : decode cX5_isMachine 1 = .ok (.ifCond .lt 13, 3) := dk_at k_dX5_isMachine_0 (i := 1) rfl
theorem dX5_isMachine_4 : decode cX5_isMachine 4 = .ok (.iload_n 0, 1) := dk_at k_dX5_isMachine_0 (i := 2) rfl
theorem dX5_isMachine_5 : decode cX5_isMachine 5 = .ok (.bipush 6, 2) := dk_at k_dX5_isMachine_0 (i := 3) rfl
theorem dX5_isMachine_7 : decode cX5_isMachine 7 = .ok (.if_icmp .ge 7, 3) := dk_at k_dX5_isMachine_0 (i := 4) rfl
theorem dX5_isMachine_10 : decode cX5_isMachine 10 = .ok (.iconst 1, 1) := dk_at k_dX5_isMachine_0 (i := 5) rfl
theorem dX5_isMachine_11 : decode cX5_isMachine 11 = .ok (.goto 4, 3) := dk_at k_dX5_isMachine_0 (i := 6) rfl
theorem dX5_isMachine_14 : decode cX5_isMachine 14 = .ok (.iconst 0, 1) := dk_at k_dX5_isMachine_0 (i := 7) rfl
theorem dX5_isMachine_15 : decode cX5_isMachine 15 = .ok (.ireturn, 1) := dk_at k_dX5_isMachine_0 (i := 8) rfl
theorem k_dX5_isTeam_0 : dk cX5_isTeam [(0, .iload_n 0, 1), (1, .ifCond .lt 12, 3), (4, .iload_n 0, 1), (5, .iconst 4, 1), (6, .if_icmp .ge 7, 3), (9, .iconst 1, 1), (10, .goto 4, 3), (13, .iconst 0, 1), (14, .ireturn, 1)] = true := by decide +kernel
theorem dX5_isTeam_0 : decode cX5_isTeam 0 = .ok (.iload_n 0, 1) := dk_at k_dX5_isTeam_0 (i := 0) rfl
theorem dX5_isTeam_1 : decode cX5_isTeam 1 = .ok (.ifCond .lt 12, 3) := dk_at k_dX5_isTeam_0 (i := 1) rfl
theorem dX5_isTeam_4 : decode cX5_isTeam 4 = .ok (.iload_n 0, 1) := dk_at k_dX5_isTeam_0 (i := 2) rfl
theorem dX5_isTeam_5 : decode cX5_isTeam 5 = .ok (.iconst 4, 1) := dk_at k_dX5_isTeam_0 (i := 3) rfl
theorem dX5_isTeam_6 : decode cX5_isTeam 6 = .ok (.if_icmp .ge 7, 3) := dk_at k_dX5_isTeam_0 (i := 4) rfl
theorem dX5_isTeam_9 : decode cX5_isTeam 9 = .ok (.iconst 1, 1) := dk_at k_dX5_isTeam_0 (i := 5) rfl
theorem dX5_isTeam_10 : decode cX5_isTeam 10 = .ok (.goto 4, 3) := dk_at k_dX5_isTeam_0 (i := 6) rfl
theorem dX5_isTeam_13 : decode cX5_isTeam 13 = .ok (.iconst 0, 1) := dk_at k_dX5_isTeam_0 (i := 7) rfl
theorem dX5_isTeam_14 : decode cX5_isTeam 14 = .ok (.ireturn, 1) := dk_at k_dX5_isTeam_0 (i := 8) rfl
theorem k_dX5_isNumber_0 : dk cX5_isNumber [(0, .iload_n 0, 1), (1, .ifCond .lt 13, 3), (4, .iload_n 0, 1), (5, .bipush 8, 2), (7, .if_icmp .ge 7, 3), (10, .iconst 1, 1), (11, .goto 4, 3), (14, .iconst 0, 1), (15, .ireturn, 1)] = true := by decide +kernel
theorem dX5_isNumber_0 : decode cX5_isNumber 0 = .ok (.iload_n 0, 1) := dk_at k_dX5_isNumber_0 (i := 0) rfl
theorem dX5_isNumber_1 : decode cX5_isNumber 1 = .ok (.ifCond .lt 13, 3) := dk_at k_dX5_isNumber_0 (i := 1) rfl
theorem dX5_isNumber_4 : decode cX5_isNumber 4 = .ok (.iload_n 0, 1) := dk_at k_dX5_isNumber_0 (i := 2) rfl
theorem dX5_isNumber_5 : decode cX5_isNumber 5 = .ok (.bipush 8, 2) := dk_at k_dX5_isNumber_0 (i := 3) rfl
theorem dX5_isNumber_7 : decode cX5_isNumber 7 = .ok (.if_icmp .ge 7, 3) := dk_at k_dX5_isNumber_0 (i := 4) rfl
theorem dX5_isNumber_10 : decode cX5_isNumber 10 = .ok (.iconst 1, 1) := dk_at k_dX5_isNumber_0 (i := 5) rfl
theorem dX5_isNumber_11 : decode cX5_isNumber 11 = .ok (.goto 4, 3) := dk_at k_dX5_isNumber_0 (i := 6) rfl
theorem dX5_isNumber_14 : decode cX5_isNumber 14 = .ok (.iconst 0, 1) := dk_at k_dX5_isNumber_0 (i := 7) rfl
theorem dX5_isNumber_15 : decode cX5_isNumber 15 = .ok (.ireturn, 1) := dk_at k_dX5_isNumber_0 (i := 8) rfl
theorem k_dX5_contains_0 : dk cX5_contains [(0, .iload_n 0, 1), (1, .iload_n 1, 1), (2, .ishr, 1), (3, .iconst 1, 1), (4, .iand, 1), (5, .ifCond .eq 7, 3), (8, .iconst 1, 1), (9, .goto 4, 3), (12, .iconst 0, 1), (13, .ireturn, 1)] = true := by decide +kernel
theorem dX5_contains_0 : decode cX5_contains 0 = .ok (.iload_n 0, 1) := dk_at k_dX5_contains_0 (i := 0) rfl
theorem dX5_contains_1 : decode cX5_contains 1 = .ok (.iload_n 1, 1) := dk_at k_dX5_contains_0 (i := 1) rfl
theorem dX5_contains_2 : decode cX5_contains 2 = .ok (.ishr, 1) := dk_at k_dX5_contains_0 (i := 2) rfl
theorem dX5_contains_3 : decode cX5_contains 3 = .ok (.iconst 1, 1) := dk_at k_dX5_contains_0 (i := 3) rfl
theorem dX5_contains_4 : decode cX5_contains 4 = .ok (.iand, 1) := dk_at k_dX5_contains_0 (i := 4) rfl
theorem dX5_contains_5 : decode cX5_contains 5 = .ok (.ifCond .eq 7, 3) := dk_at k_dX5_contains_0 (i := 5) rfl
theorem dX5_contains_8 : decode cX5_contains 8 = .ok (.iconst 1, 1) := dk_at k_dX5_contains_0 (i := 6) rfl
theorem dX5_contains_9 : decode cX5_contains 9 = .ok (.goto 4, 3) := dk_at k_dX5_contains_0 (i := 7) rfl
theorem dX5_contains_12 : decode cX5_contains 12 = .ok (.iconst 0, 1) := dk_at k_dX5_contains_0 (i := 8) rfl
theorem dX5_contains_13 : decode cX5_contains 13 = .ok (.ireturn, 1) := dk_at k_dX5_contains_0 (i := 9) rfl
theorem k_dJ6_bitCount_0f7a4_0 : dk cJ6_bitCount_0f7a4 [(0, .iload_n 0, 1), (1, .iload_n 0, 1), (2, .iconst 1, 1), (3, .iushr, 1), (4, .ldc_w 265, 3), (7, .iand, 1), (8, .isub, 1), (9, .istore_n 0, 1), (10, .iload_n 0, 1), (11, .ldc_w 266, 3), (14, .iand, 1), (15, .iload_n 0, 1), (16, .iconst 2, 1), (17, .iushr, 1), (18, .ldc_w 266, 3), (21, .iand, 1), (22, .iadd, 1), (23, .istore_n 0, 1), (24, .iload_n 0, 1), (25, .iload_n 0, 1), (26, .iconst 4, 1), (27, .iushr, 1), (28, .iadd, 1), (29, .ldc_w 267, 3), (32, .iand, 1), (33, .istore_n 0, 1), (34, .iload_n 0, 1), (35, .iload_n 0, 1), (36, .bipush 8, 2), (38, .iushr, 1), (39, .iadd, 1), (40, .istore_n 0, 1)] = true := by decide +kernel
theorem dJ6_bitCount_0f7a4_0 : decode cJ6_bitCount_0f7a4 0 = .ok (.iload_n 0, 1) := dk_at k_dJ6_bitCount_0f7a4_0 (i := 0) rfl
theorem dJ6_bitCount_0f7a4_1 : decode cJ6_bitCount_0f7a4 1 = .ok (.iload_n 0, 1) := dk_at k_dJ6_bitCount_0f7a4_0 (i := 1) rfl
theorem dJ6_bitCount_0f7a4_2 : decode cJ6_bitCount_0f7a4 2 = .ok (.iconst 1, 1) := dk_at k_dJ6_bitCount_0f7a4_0 (i := 2) rfl
theorem dJ6_bitCount_0f7a4_3 : decode cJ6_bitCount_0f7a4 3 = .ok (.iushr, 1) := dk_at k_dJ6_bitCount_0f7a4_0 (i := 3) rfl
theorem dJ6_bitCount_0f7a4_4 : decode cJ6_bitCount_0f7a4 4 = .ok (.ldc_w 265, 3) := dk_at k_dJ6_bitCount_0f7a4_0 (i := 4) rfl
theorem dJ6_bitCount_0f7a4_7 : decode cJ6_bitCount_0f7a4 7 = .ok (.iand, 1) := dk_at k_dJ6_bitCount_0f7a4_0 (i := 5) rfl
theorem dJ6_bitCount_0f7a4_8 : decode cJ6_bitCount_0f7a4 8 = .ok (.isub, 1) := dk_at k_dJ6_bitCount_0f7a4_0 (i := 6) rfl
theorem dJ6_bitCount_0f7a4_9 : decode cJ6_bitCount_0f7a4 9 = .ok (.istore_n 0, 1) := dk_at k_dJ6_bitCount_0f7a4_0 (i := 7) rfl
theorem dJ6_bitCount_0f7a4_10 : decode cJ6_bitCount_0f7a4 10 = .ok (.iload_n 0, 1) := dk_at k_dJ6_bitCount_0f7a4_0 (i := 8) rfl
theorem dJ6_bitCount_0f7a4_11 : decode cJ6_bitCount_0f7a4 11 = .ok (.ldc_w 266, 3) := dk_at k_dJ6_bitCount_0f7a4_0 (i := 9) rfl
theorem dJ6_bitCount_0f7a4_14 : decode cJ6_bitCount_0f7a4 14 = .ok (.iand, 1) := dk_at k_dJ6_bitCount_0f7a4_0 (i := 10) rfl
theorem dJ6_bitCount_0f7a4_15 : decode cJ6_bitCount_0f7a4 15 = .ok (.iload_n 0, 1) := dk_at k_dJ6_bitCount_0f7a4_0 (i := 11) rfl
theorem dJ6_bitCount_0f7a4_16 : decode cJ6_bitCount_0f7a4 16 = .ok (.iconst 2, 1) := dk_at k_dJ6_bitCount_0f7a4_0 (i := 12) rfl
theorem dJ6_bitCount_0f7a4_17 : decode cJ6_bitCount_0f7a4 17 = .ok (.iushr, 1) := dk_at k_dJ6_bitCount_0f7a4_0 (i := 13) rfl
theorem dJ6_bitCount_0f7a4_18 : decode cJ6_bitCount_0f7a4 18 = .ok (.ldc_w 266, 3) := dk_at k_dJ6_bitCount_0f7a4_0 (i := 14) rfl
theorem dJ6_bitCount_0f7a4_21 : decode cJ6_bitCount_0f7a4 21 = .ok (.iand, 1) := dk_at k_dJ6_bitCount_0f7a4_0 (i := 15) rfl
theorem dJ6_bitCount_0f7a4_22 : decode cJ6_bitCount_0f7a4 22 = .ok (.iadd, 1) := dk_at k_dJ6_bitCount_0f7a4_0 (i := 16) rfl
theorem dJ6_bitCount_0f7a4_23 : decode cJ6_bitCount_0f7a4 23 = .ok (.istore_n 0, 1) := dk_at k_dJ6_bitCount_0f7a4_0 (i := 17) rfl
theorem dJ6_bitCount_0f7a4_24 : decode cJ6_bitCount_0f7a4 24 = .ok (.iload_n 0, 1) := dk_at k_dJ6_bitCount_0f7a4_0 (i := 18) rfl
theorem dJ6_bitCount_0f7a4_25 : decode cJ6_bitCount_0f7a4 25 = .ok (.iload_n 0, 1) := dk_at k_dJ6_bitCount_0f7a4_0 (i := 19) rfl
theorem dJ6_bitCount_0f7a4_26 : decode cJ6_bitCount_0f7a4 26 = .ok (.iconst 4, 1) := dk_at k_dJ6_bitCount_0f7a4_0 (i := 20) rfl
theorem dJ6_bitCount_0f7a4_27 : decode cJ6_bitCount_0f7a4 27 = .ok (.iushr, 1) := dk_at k_dJ6_bitCount_0f7a4_0 (i := 21) rfl
theorem dJ6_bitCount_0f7a4_28 : decode cJ6_bitCount_0f7a4 28 = .ok (.iadd, 1) := dk_at k_dJ6_bitCount_0f7a4_0 (i := 22) rfl
theorem dJ6_bitCount_0f7a4_29 : decode cJ6_bitCount_0f7a4 29 = .ok (.ldc_w 267, 3) := dk_at k_dJ6_bitCount_0f7a4_0 (i := 23) rfl
theorem dJ6_bitCount_0f7a4_32 : decode cJ6_bitCount_0f7a4 32 = .ok (.iand, 1) := dk_at k_dJ6_bitCount_0f7a4_0 (i := 24) rfl
theorem dJ6_bitCount_0f7a4_33 : decode cJ6_bitCount_0f7a4 33 = .ok (.istore_n 0, 1) := dk_at k_dJ6_bitCount_0f7a4_0 (i := 25) rfl
theorem dJ6_bitCount_0f7a4_34 : decode cJ6_bitCount_0f7a4 34 = .ok (.iload_n 0, 1) := dk_at k_dJ6_bitCount_0f7a4_0 (i := 26) rfl
theorem dJ6_bitCount_0f7a4_35 : decode cJ6_bitCount_0f7a4 35 = .ok (.iload_n 0, 1) := dk_at k_dJ6_bitCount_0f7a4_0 (i := 27) rfl
theorem dJ6_bitCount_0f7a4_36 : decode cJ6_bitCount_0f7a4 36 = .ok (.bipush 8, 2) := dk_at k_dJ6_bitCount_0f7a4_0 (i := 28) rfl
theorem dJ6_bitCount_0f7a4_38 : decode cJ6_bitCount_0f7a4 38 = .ok (.iushr, 1) := dk_at k_dJ6_bitCount_0f7a4_0 (i := 29) rfl
theorem dJ6_bitCount_0f7a4_39 : decode cJ6_bitCount_0f7a4 39 = .ok (.iadd, 1) := dk_at k_dJ6_bitCount_0f7a4_0 (i := 30) rfl
theorem dJ6_bitCount_0f7a4_40 : decode cJ6_bitCount_0f7a4 40 = .ok (.istore_n 0, 1) := dk_at k_dJ6_bitCount_0f7a4_0 (i := 31) rfl
theorem k_dJ6_bitCount_0f7a4_41 : dk cJ6_bitCount_0f7a4 [(41, .iload_n 0, 1), (42, .iload_n 0, 1), (43, .bipush 16, 2), (45, .iushr, 1), (46, .iadd, 1), (47, .istore_n 0, 1), (48, .iload_n 0, 1), (49, .bipush 63, 2), (51, .iand, 1), (52, .ireturn, 1)] = true := by decide +kernel
theorem dJ6_bitCount_0f7a4_41 : decode cJ6_bitCount_0f7a4 41 = .ok (.iload_n 0, 1) := dk_at k_dJ6_bitCount_0f7a4_41 (i := 0) rfl
theorem dJ6_bitCount_0f7a4_42 : decode cJ6_bitCount_0f7a4 42 = .ok (.iload_n 0, 1) := dk_at k_dJ6_bitCount_0f7a4_41 (i := 1) rfl
theorem dJ6_bitCount_0f7a4_43 : decode cJ6_bitCount_0f7a4 43 = .ok (.bipush 16, 2) := dk_at k_dJ6_bitCount_0f7a4_41 (i := 2) rfl
theorem dJ6_bitCount_0f7a4_45 : decode cJ6_bitCount_0f7a4 45 = .ok (.iushr, 1) := dk_at k_dJ6_bitCount_0f7a4_41 (i := 3) rfl
theorem dJ6_bitCount_0f7a4_46 : decode cJ6_bitCount_0f7a4 46 = .ok (.iadd, 1) := dk_at k_dJ6_bitCount_0f7a4_41 (i := 4) rfl
theorem dJ6_bitCount_0f7a4_47 : decode cJ6_bitCount_0f7a4 47 = .ok (.istore_n 0, 1) := dk_at k_dJ6_bitCount_0f7a4_41 (i := 5) rfl
theorem dJ6_bitCount_0f7a4_48 : decode cJ6_bitCount_0f7a4 48 = .ok (.iload_n 0, 1) := dk_at k_dJ6_bitCount_0f7a4_41 (i := 6) rfl
theorem dJ6_bitCount_0f7a4_49 : decode cJ6_bitCount_0f7a4 49 = .ok (.bipush 63, 2) := dk_at k_dJ6_bitCount_0f7a4_41 (i := 7) rfl
theorem dJ6_bitCount_0f7a4_51 : decode cJ6_bitCount_0f7a4 51 = .ok (.iand, 1) := dk_at k_dJ6_bitCount_0f7a4_41 (i := 8) rfl
theorem dJ6_bitCount_0f7a4_52 : decode cJ6_bitCount_0f7a4 52 = .ok (.ireturn, 1) := dk_at k_dJ6_bitCount_0f7a4_41 (i := 9) rfl
theorem k_dJ9_max_7cf53_0 : dk cJ9_max_7cf53 [(0, .iload_n 0, 1), (1, .iload_n 1, 1), (2, .if_icmp .lt 7, 3), (5, .iload_n 0, 1), (6, .goto 4, 3), (9, .iload_n 1, 1), (10, .ireturn, 1)] = true := by decide +kernel
theorem dJ9_max_7cf53_0 : decode cJ9_max_7cf53 0 = .ok (.iload_n 0, 1) := dk_at k_dJ9_max_7cf53_0 (i := 0) rfl
theorem dJ9_max_7cf53_1 : decode cJ9_max_7cf53 1 = .ok (.iload_n 1, 1) := dk_at k_dJ9_max_7cf53_0 (i := 1) rfl
theorem dJ9_max_7cf53_2 : decode cJ9_max_7cf53 2 = .ok (.if_icmp .lt 7, 3) := dk_at k_dJ9_max_7cf53_0 (i := 2) rfl
theorem dJ9_max_7cf53_5 : decode cJ9_max_7cf53 5 = .ok (.iload_n 0, 1) := dk_at k_dJ9_max_7cf53_0 (i := 3) rfl
theorem dJ9_max_7cf53_6 : decode cJ9_max_7cf53 6 = .ok (.goto 4, 3) := dk_at k_dJ9_max_7cf53_0 (i := 4) rfl
theorem dJ9_max_7cf53_9 : decode cJ9_max_7cf53 9 = .ok (.iload_n 1, 1) := dk_at k_dJ9_max_7cf53_0 (i := 5) rfl
theorem dJ9_max_7cf53_10 : decode cJ9_max_7cf53 10 = .ok (.ireturn, 1) := dk_at k_dJ9_max_7cf53_0 (i := 6) rfl
theorem k_dJ7_fill_53178_0 : dk cJ7_fill_53178 [(0, .iconst 0, 1), (1, .istore_n 2, 1), (2, .aload_n 0, 1), (3, .arraylength, 1), (4, .istore_n 3, 1), (5, .iload_n 2, 1), (6, .iload_n 3, 1), (7, .if_icmp .ge 13, 3), (10, .aload_n 0, 1), (11, .iload_n 2, 1), (12, .iload_n 1, 1), (13, .iastore, 1), (14, .iinc 2 1, 3), (17, .goto (-12), 3), (20, .return_, 1)] = true := by decide +kernel
theorem dJ7_fill_53178_0 : decode cJ7_fill_53178 0 = .ok (.iconst 0, 1) := dk_at k_dJ7_fill_53178_0 (i := 0) rfl
theorem dJ7_fill_53178_1 : decode cJ7_fill_53178 1 = .ok (.istore_n 2, 1) := dk_at k_dJ7_fill_53178_0 (i := 1) rfl
theorem dJ7_fill_53178_2 : decode cJ7_fill_53178 2 = .ok (.aload_n 0, 1) := dk_at k_dJ7_fill_53178_0 (i := 2) rfl
theorem dJ7_fill_53178_3 : decode cJ7_fill_53178 3 = .ok (.arraylength, 1) := dk_at k_dJ7_fill_53178_0 (i := 3) rfl
theorem dJ7_fill_53178_4 : decode cJ7_fill_53178 4 = .ok (.istore_n 3, 1) := dk_at k_dJ7_fill_53178_0 (i := 4) rfl
theorem dJ7_fill_53178_5 : decode cJ7_fill_53178 5 = .ok (.iload_n 2, 1) := dk_at k_dJ7_fill_53178_0 (i := 5) rfl
theorem dJ7_fill_53178_6 : decode cJ7_fill_53178 6 = .ok (.iload_n 3, 1) := dk_at k_dJ7_fill_53178_0 (i := 6) rfl
theorem dJ7_fill_53178_7 : decode cJ7_fill_53178 7 = .ok (.if_icmp .ge 13, 3) := dk_at k_dJ7_fill_53178_0 (i := 7) rfl
theorem dJ7_fill_53178_10 : decode cJ7_fill_53178 10 = .ok (.aload_n 0, 1) := dk_at k_dJ7_fill_53178_0 (i := 8) rfl
theorem dJ7_fill_53178_11 : decode cJ7_fill_53178 11 = .ok (.iload_n 2, 1) := dk_at k_dJ7_fill_53178_0 (i := 9) rfl
theorem dJ7_fill_53178_12 : decode cJ7_fill_53178 12 = .ok (.iload_n 1, 1) := dk_at k_dJ7_fill_53178_0 (i := 10) rfl
theorem dJ7_fill_53178_13 : decode cJ7_fill_53178 13 = .ok (.iastore, 1) := dk_at k_dJ7_fill_53178_0 (i := 11) rfl
theorem dJ7_fill_53178_14 : decode cJ7_fill_53178 14 = .ok (.iinc 2 1, 3) := dk_at k_dJ7_fill_53178_0 (i := 12) rfl
theorem dJ7_fill_53178_17 : decode cJ7_fill_53178 17 = .ok (.goto (-12), 3) := dk_at k_dJ7_fill_53178_0 (i := 13) rfl
theorem dJ7_fill_53178_20 : decode cJ7_fill_53178 20 = .ok (.return_, 1) := dk_at k_dJ7_fill_53178_0 (i := 14) rfl
