theorem dX8_meet_0 : decode cX8_meet 0 = .ok (.iconst 1, 1) := dk_n (t := []) dk_g4 (by decide +kernel)
theorem dX8_meet_1 : decode cX8_meet 1 = .ok (.istore_n 3, 1) := dk_n (t := []) dk_g62 (by decide +kernel)
theorem dX8_meet_2 : decode cX8_meet 2 = .ok (.iload_n 3, 1) := dk_n (t := []) dk_g29 (by decide +kernel)
theorem dX8_meet_3 : decode cX8_meet 3 = .ok (.ifCond .eq 114, 3) := dk_s2 (y := 0) (z := 114) dk_g153 (by decide +kernel) rfl
theorem dX8_meet_6 : decode cX8_meet 6 = .ok (.aload_n 0, 1) := dk_n (t := []) dk_g42 (by decide +kernel)
theorem dX8_meet_7 : decode cX8_meet 7 = .ok (.iload_n 1, 1) := dk_n (t := []) dk_g27 (by decide +kernel)
theorem dX8_meet_8 : decode cX8_meet 8 = .ok (.invokevirtual 133, 3) := dk_u2 (y := 0) (z := 133) dk_g182 (by decide +kernel) rfl
theorem dX8_meet_11 : decode cX8_meet 11 = .ok (.ifCond .ne 106, 3) := dk_s2 (y := 0) (z := 106) dk_g154 (by decide +kernel) rfl
theorem dX8_meet_14 : decode cX8_meet 14 = .ok (.iconst 0, 1) := dk_n (t := []) dk_g3 (by decide +kernel)
theorem dX8_meet_15 : decode cX8_meet 15 = .ok (.istore_n 3, 1) := dk_n (t := []) dk_g62 (by decide +kernel)
theorem dX8_meet_16 : decode cX8_meet 16 = .ok (.iconst 0, 1) := dk_n (t := []) dk_g3 (by decide +kernel)
theorem dX8_meet_17 : decode cX8_meet 17 = .ok (.istore 4, 2) := dk_u1 (y := 4) dk_g54 (by decide +kernel)
theorem dX8_meet_19 : decode cX8_meet 19 = .ok (.iload 4, 2) := dk_u1 (y := 4) dk_g21 (by decide +kernel)
theorem dX8_meet_21 : decode cX8_meet 21 = .ok (.aload_n 0, 1) := dk_n (t := []) dk_g42 (by decide +kernel)
theorem dX8_meet_22 : decode cX8_meet 22 = .ok (.getfield 19, 3) := dk_u2 (y := 0) (z := 19) dk_g180 (by decide +kernel) rfl
theorem dX8_meet_25 : decode cX8_meet 25 = .ok (.invokevirtual 52, 3) := dk_u2 (y := 0) (z := 52) dk_g182 (by decide +kernel) rfl
theorem dX8_meet_28 : decode cX8_meet 28 = .ok (.if_icmp .ge 86, 3) := dk_s2 (y := 0) (z := 86) dk_g162 (by decide +kernel) rfl
theorem dX8_meet_31 : decode cX8_meet 31 = .ok (.iload_n 2, 1) := dk_n (t := []) dk_g28 (by decide +kernel)
theorem dX8_meet_32 : decode cX8_meet 32 = .ok (.iload 4, 2) := dk_u1 (y := 4) dk_g21 (by decide +kernel)
theorem dX8_meet_34 : decode cX8_meet 34 = .ok (.ishr, 1) := dk_n (t := []) dk_g122 (by decide +kernel)
theorem dX8_meet_35 : decode cX8_meet 35 = .ok (.iconst 1, 1) := dk_n (t := []) dk_g4 (by decide +kernel)
theorem dX8_meet_36 : decode cX8_meet 36 = .ok (.iand, 1) := dk_n (t := []) dk_g126 (by decide +kernel)
theorem dX8_meet_37 : decode cX8_meet 37 = .ok (.ifCond .ne 6, 3) := dk_s2 (y := 0) (z := 6) dk_g154 (by decide +kernel) rfl
theorem dX8_meet_40 : decode cX8_meet 40 = .ok (.goto 68, 3) := dk_s2 (y := 0) (z := 68) dk_g167 (by decide +kernel) rfl
theorem dX8_meet_43 : decode cX8_meet 43 = .ok (.aload_n 0, 1) := dk_n (t := []) dk_g42 (by decide +kernel)
theorem dX8_meet_44 : decode cX8_meet 44 = .ok (.getfield 19, 3) := dk_u2 (y := 0) (z := 19) dk_g180 (by decide +kernel) rfl
theorem dX8_meet_47 : decode cX8_meet 47 = .ok (.iload 4, 2) := dk_u1 (y := 4) dk_g21 (by decide +kernel)
theorem dX8_meet_49 : decode cX8_meet 49 = .ok (.invokevirtual 71, 3) := dk_u2 (y := 0) (z := 71) dk_g182 (by decide +kernel) rfl
theorem dX8_meet_52 : decode cX8_meet 52 = .ok (.checkcast 57, 3) := dk_u2 (y := 0) (z := 57) dk_g192 (by decide +kernel) rfl
theorem dX8_meet_55 : decode cX8_meet 55 = .ok (.astore 5, 2) := dk_u1 (y := 5) dk_g58 (by decide +kernel)
theorem dX8_meet_57 : decode cX8_meet 57 = .ok (.aload 5, 2) := dk_u1 (y := 5) dk_g25 (by decide +kernel)
theorem dX8_meet_59 : decode cX8_meet 59 = .ok (.getfield 79, 3) := dk_u2 (y := 0) (z := 79) dk_g180 (by decide +kernel) rfl
theorem dX8_meet_62 : decode cX8_meet 62 = .ok (.iconst 5, 1) := dk_n (t := []) dk_g8 (by decide +kernel)
theorem dX8_meet_63 : decode cX8_meet 63 = .ok (.if_icmp .ne 6, 3) := dk_s2 (y := 0) (z := 6) dk_g160 (by decide +kernel) rfl
theorem dX8_meet_66 : decode cX8_meet 66 = .ok (.goto 42, 3) := dk_s2 (y := 0) (z := 42) dk_g167 (by decide +kernel) rfl
theorem dX8_meet_69 : decode cX8_meet 69 = .ok (.iload_n 3, 1) := dk_n (t := []) dk_g29 (by decide +kernel)
theorem dX8_meet_70 : decode cX8_meet 70 = .ok (.aload_n 0, 1) := dk_n (t := []) dk_g42 (by decide +kernel)
theorem dX8_meet_71 : decode cX8_meet 71 = .ok (.iload_n 1, 1) := dk_n (t := []) dk_g27 (by decide +kernel)
theorem dX8_meet_72 : decode cX8_meet 72 = .ok (.aload 5, 2) := dk_u1 (y := 5) dk_g25 (by decide +kernel)
theorem dX8_meet_74 : decode cX8_meet 74 = .ok (.aload 5, 2) := dk_u1 (y := 5) dk_g25 (by decide +kernel)
theorem dX8_meet_76 : decode cX8_meet 76 = .ok (.getfield 65, 3) := dk_u2 (y := 0) (z := 65) dk_g180 (by decide +kernel) rfl
theorem dX8_meet_79 : decode cX8_meet 79 = .ok (.invokevirtual 136, 3) := dk_u2 (y := 0) (z := 136) dk_g182 (by decide +kernel) rfl
theorem dX8_meet_82 : decode cX8_meet 82 = .ok (.ior, 1) := dk_n (t := []) dk_g128 (by decide +kernel)
theorem dX8_meet_83 : decode cX8_meet 83 = .ok (.istore_n 3, 1) := dk_n (t := []) dk_g62 (by decide +kernel)
theorem dX8_meet_84 : decode cX8_meet 84 = .ok (.aload 5, 2) := dk_u1 (y := 5) dk_g25 (by decide +kernel)
theorem dX8_meet_86 : decode cX8_meet 86 = .ok (.getfield 79, 3) := dk_u2 (y := 0) (z := 79) dk_g180 (by decide +kernel) rfl
theorem dX8_meet_89 : decode cX8_meet 89 = .ok (.iconst 2, 1) := dk_n (t := []) dk_g5 (by decide +kernel)
theorem dX8_meet_90 : decode cX8_meet 90 = .ok (.if_icmp .le 18, 3) := dk_s2 (y := 0) (z := 18) dk_g164 (by decide +kernel) rfl
theorem dX8_meet_93 : decode cX8_meet 93 = .ok (.iload_n 3, 1) := dk_n (t := []) dk_g29 (by decide +kernel)
theorem dX8_meet_94 : decode cX8_meet 94 = .ok (.aload_n 0, 1) := dk_n (t := []) dk_g42 (by decide +kernel)
theorem dX8_meet_95 : decode cX8_meet 95 = .ok (.iload_n 1, 1) := dk_n (t := []) dk_g27 (by decide +kernel)
theorem dX8_meet_96 : decode cX8_meet 96 = .ok (.aload 5, 2) := dk_u1 (y := 5) dk_g25 (by decide +kernel)
theorem dX8_meet_98 : decode cX8_meet 98 = .ok (.aload 5, 2) := dk_u1 (y := 5) dk_g25 (by decide +kernel)
theorem dX8_meet_100 : decode cX8_meet 100 = .ok (.getfield 91, 3) := dk_u2 (y := 0) (z := 91) dk_g180 (by decide +kernel) rfl
theorem dX8_meet_103 : decode cX8_meet 103 = .ok (.invokevirtual 136, 3) := dk_u2 (y := 0) (z := 136) dk_g182 (by decide +kernel) rfl
theorem dX8_meet_106 : decode cX8_meet 106 = .ok (.ior, 1) := dk_n (t := []) dk_g128 (by decide +kernel)
theorem dX8_meet_107 : decode cX8_meet 107 = .ok (.istore_n 3, 1) := dk_n (t := []) dk_g62 (by decide +kernel)
theorem dX8_meet_108 : decode cX8_meet 108 = .ok (.iinc 4 1, 3) := dk_ii (y := 4) (z := 1) dk_g132 (by decide +kernel) rfl
theorem dX8_meet_111 : decode cX8_meet 111 = .ok (.goto (-92), 3) := dk_s2 (y := 255) (z := 164) dk_g167 (by decide +kernel) rfl
theorem dX8_meet_114 : decode cX8_meet 114 = .ok (.goto (-112), 3) := dk_s2 (y := 255) (z := 144) dk_g167 (by decide +kernel) rfl
theorem dX8_meet_117 : decode cX8_meet 117 = .ok (.aload_n 0, 1) := dk_n (t := []) dk_g42 (by decide +kernel)
theorem dX8_meet_118 : decode cX8_meet 118 = .ok (.iload_n 1, 1) := dk_n (t := []) dk_g27 (by decide +kernel)
theorem dX8_meet_119 : decode cX8_meet 119 = .ok (.invokevirtual 133, 3) := dk_u2 (y := 0) (z := 133) dk_g182 (by decide +kernel) rfl
theorem dX8_meet_122 : decode cX8_meet 122 = .ok (.istore 4, 2) := dk_u1 (y := 4) dk_g54 (by decide +kernel)
theorem dX8_meet_124 : decode cX8_meet 124 = .ok (.iconst 0, 1) := dk_n (t := []) dk_g3 (by decide +kernel)
theorem dX8_meet_125 : decode cX8_meet 125 = .ok (.istore 5, 2) := dk_u1 (y := 5) dk_g54 (by decide +kernel)
theorem dX8_meet_127 : decode cX8_meet 127 = .ok (.iload 5, 2) := dk_u1 (y := 5) dk_g21 (by decide +kernel)
theorem dX8_meet_129 : decode cX8_meet 129 = .ok (.iconst 5, 1) := dk_n (t := []) dk_g8 (by decide +kernel)
theorem dX8_meet_130 : decode cX8_meet 130 = .ok (.if_icmp .ge 26, 3) := dk_s2 (y := 0) (z := 26) dk_g162 (by decide +kernel) rfl
theorem dX8_meet_133 : decode cX8_meet 133 = .ok (.iload 4, 2) := dk_u1 (y := 4) dk_g21 (by decide +kernel)
theorem dX8_meet_135 : decode cX8_meet 135 = .ok (.ifCond .eq 21, 3) := dk_s2 (y := 0) (z := 21) dk_g153 (by decide +kernel) rfl
theorem dX8_meet_138 : decode cX8_meet 138 = .ok (.aload_n 0, 1) := dk_n (t := []) dk_g42 (by decide +kernel)
theorem dX8_meet_139 : decode cX8_meet 139 = .ok (.getfield 32, 3) := dk_u2 (y := 0) (z := 32) dk_g180 (by decide +kernel) rfl
theorem dX8_meet_142 : decode cX8_meet 142 = .ok (.iload_n 1, 1) := dk_n (t := []) dk_g27 (by decide +kernel)
theorem dX8_meet_143 : decode cX8_meet 143 = .ok (.iconst 5, 1) := dk_n (t := []) dk_g8 (by decide +kernel)
theorem dX8_meet_144 : decode cX8_meet 144 = .ok (.imul, 1) := dk_n (t := []) dk_g104 (by decide +kernel)
theorem dX8_meet_145 : decode cX8_meet 145 = .ok (.iload 5, 2) := dk_u1 (y := 5) dk_g21 (by decide +kernel)
theorem dX8_meet_147 : decode cX8_meet 147 = .ok (.iadd, 1) := dk_n (t := []) dk_g96 (by decide +kernel)
theorem dX8_meet_148 : decode cX8_meet 148 = .ok (.iconst 0, 1) := dk_n (t := []) dk_g3 (by decide +kernel)
theorem dX8_meet_149 : decode cX8_meet 149 = .ok (.iastore, 1) := dk_n (t := []) dk_g79 (by decide +kernel)
theorem dX8_meet_150 : decode cX8_meet 150 = .ok (.iinc 5 1, 3) := dk_ii (y := 5) (z := 1) dk_g132 (by decide +kernel) rfl
theorem dX8_meet_153 : decode cX8_meet 153 = .ok (.goto (-26), 3) := dk_s2 (y := 255) (z := 230) dk_g167 (by decide +kernel) rfl
theorem dX8_meet_156 : decode cX8_meet 156 = .ok (.iload 4, 2) := dk_u1 (y := 4) dk_g21 (by decide +kernel)
theorem dX8_meet_158 : decode cX8_meet 158 = .ok (.ireturn, 1) := dk_n (t := []) dk_g172 (by decide +kernel)
theorem dX8_meetAnew_0 : decode cX8_meetAnew 0 = .ok (.aload_n 0, 1) := dk_n (t := []) dk_g42 (by decide +kernel)
theorem dX8_meetAnew_1 : decode cX8_meetAnew 1 = .ok (.iload_n 1, 1) := dk_n (t := []) dk_g27 (by decide +kernel)
theorem dX8_meetAnew_2 : decode cX8_meetAnew 2 = .ok (.invokevirtual 140, 3) := dk_u2 (y := 0) (z := 140) dk_g182 (by decide +kernel) rfl
theorem dX8_meetAnew_5 : decode cX8_meetAnew 5 = .ok (.aload_n 0, 1) := dk_n (t := []) dk_g42 (by decide +kernel)
theorem dX8_meetAnew_6 : decode cX8_meetAnew 6 = .ok (.iload_n 1, 1) := dk_n (t := []) dk_g27 (by decide +kernel)
theorem dX8_meetAnew_7 : decode cX8_meetAnew 7 = .ok (.iload_n 2, 1) := dk_n (t := []) dk_g28 (by decide +kernel)
theorem dX8_meetAnew_8 : decode cX8_meetAnew 8 = .ok (.invokevirtual 144, 3) := dk_u2 (y := 0) (z := 144) dk_g182 (by decide +kernel) rfl
theorem dX8_meetAnew_11 : decode cX8_meetAnew 11 = .ok (.ireturn, 1) := dk_n (t := []) dk_g172 (by decide +kernel)
theorem dX8_only_0 : decode cX8_only 0 = .ok (.aload_n 0, 1) := dk_n (t := []) dk_g42 (by decide +kernel)
theorem dX8_only_1 : decode cX8_only 1 = .ok (.getfield 32, 3) := dk_u2 (y := 0) (z := 32) dk_g180 (by decide +kernel) rfl
theorem dX8_only_4 : decode cX8_only 4 = .ok (.iload_n 1, 1) := dk_n (t := []) dk_g27 (by decide +kernel)
theorem dX8_only_5 : decode cX8_only 5 = .ok (.iconst 5, 1) := dk_n (t := []) dk_g8 (by decide +kernel)
theorem dX8_only_6 : decode cX8_only 6 = .ok (.imul, 1) := dk_n (t := []) dk_g104 (by decide +kernel)
theorem dX8_only_7 : decode cX8_only 7 = .ok (.iload_n 2, 1) := dk_n (t := []) dk_g28 (by decide +kernel)
theorem dX8_only_8 : decode cX8_only 8 = .ok (.iadd, 1) := dk_n (t := []) dk_g96 (by decide +kernel)
theorem dX8_only_9 : decode cX8_only 9 = .ok (.dup2, 1) := dk_n (t := []) dk_g92 (by decide +kernel)
theorem dX8_only_10 : decode cX8_only 10 = .ok (.iaload, 1) := dk_n (t := []) dk_g46 (by decide +kernel)
theorem dX8_only_11 : decode cX8_only 11 = .ok (.iconst 1, 1) := dk_n (t := []) dk_g4 (by decide +kernel)
theorem dX8_only_12 : decode cX8_only 12 = .ok (.iload_n 3, 1) := dk_n (t := []) dk_g29 (by decide +kernel)
theorem dX8_only_13 : decode cX8_only 13 = .ok (.ishl, 1) := dk_n (t := []) dk_g120 (by decide +kernel)
theorem dX8_only_14 : decode cX8_only 14 = .ok (.iand, 1) := dk_n (t := []) dk_g126 (by decide +kernel)
theorem dX8_only_15 : decode cX8_only 15 = .ok (.iastore, 1) := dk_n (t := []) dk_g79 (by decide +kernel)
theorem dX8_only_16 : decode cX8_only 16 = .ok (.return_, 1) := dk_n (t := []) dk_g177 (by decide +kernel)
theorem dX8_nextDefault_0 : decode cX8_nextDefault 0 = .ok (.iconst (-1), 1) := dk_n (t := []) dk_g2 (by decide +kernel)
theorem dX8_nextDefault_1 : decode cX8_nextDefault 1 = .ok (.istore_n 3, 1) := dk_n (t := []) dk_g62 (by decide +kernel)
theorem dX8_nextDefault_2 : decode cX8_nextDefault 2 = .ok (.iconst 0, 1) := dk_n (t := []) dk_g3 (by decide +kernel)
theorem dX8_nextDefault_3 : decode cX8_nextDefault 3 = .ok (.istore 4, 2) := dk_u1 (y := 4) dk_g54 (by decide +kernel)
theorem dX8_nextDefault_5 : decode cX8_nextDefault 5 = .ok (.iload 4, 2) := dk_u1 (y := 4) dk_g21 (by decide +kernel)
theorem dX8_nextDefault_7 : decode cX8_nextDefault 7 = .ok (.aload_n 0, 1) := dk_n (t := []) dk_g42 (by decide +kernel)
theorem dX8_nextDefault_8 : decode cX8_nextDefault 8 = .ok (.getfield 19, 3) := dk_u2 (y := 0) (z := 19) dk_g180 (by decide +kernel) rfl
theorem dX8_nextDefault_11 : decode cX8_nextDefault 11 = .ok (.invokevirtual 52, 3) := dk_u2 (y := 0) (z := 52) dk_g182 (by decide +kernel) rfl
theorem dX8_nextDefault_14 : decode cX8_nextDefault 14 = .ok (.if_icmp .ge 86, 3) := dk_s2 (y := 0) (z := 86) dk_g162 (by decide +kernel) rfl
theorem dX8_nextDefault_17 : decode cX8_nextDefault 17 = .ok (.aload_n 0, 1) := dk_n (t := []) dk_g42 (by decide +kernel)
theorem dX8_nextDefault_18 : decode cX8_nextDefault 18 = .ok (.getfield 19, 3) := dk_u2 (y := 0) (z := 19) dk_g180 (by decide +kernel) rfl
theorem dX8_nextDefault_21 : decode cX8_nextDefault 21 = .ok (.iload 4, 2) := dk_u1 (y := 4) dk_g21 (by decide +kernel)
theorem dX8_nextDefault_23 : decode cX8_nextDefault 23 = .ok (.invokevirtual 71, 3) := dk_u2 (y := 0) (z := 71) dk_g182 (by decide +kernel) rfl
theorem dX8_nextDefault_26 : decode cX8_nextDefault 26 = .ok (.checkcast 57, 3) := dk_u2 (y := 0) (z := 57) dk_g192 (by decide +kernel) rfl
theorem dX8_nextDefault_29 : decode cX8_nextDefault 29 = .ok (.astore 5, 2) := dk_u1 (y := 5) dk_g58 (by decide +kernel)
theorem dX8_nextDefault_31 : decode cX8_nextDefault 31 = .ok (.aload 5, 2) := dk_u1 (y := 5) dk_g25 (by decide +kernel)
theorem dX8_nextDefault_33 : decode cX8_nextDefault 33 = .ok (.getfield 79, 3) := dk_u2 (y := 0) (z := 79) dk_g180 (by decide +kernel) rfl
theorem dX8_nextDefault_36 : decode cX8_nextDefault 36 = .ok (.iconst 5, 1) := dk_n (t := []) dk_g8 (by decide +kernel)
theorem dX8_nextDefault_37 : decode cX8_nextDefault 37 = .ok (.if_icmp .ne 57, 3) := dk_s2 (y := 0) (z := 57) dk_g160 (by decide +kernel) rfl
theorem dX8_nextDefault_40 : decode cX8_nextDefault 40 = .ok (.aload 5, 2) := dk_u1 (y := 5) dk_g25 (by decide +kernel)
theorem dX8_nextDefault_42 : decode cX8_nextDefault 42 = .ok (.getfield 65, 3) := dk_u2 (y := 0) (z := 65) dk_g180 (by decide +kernel) rfl
theorem dX8_nextDefault_45 : decode cX8_nextDefault 45 = .ok (.iload_n 1, 1) := dk_n (t := []) dk_g27 (by decide +kernel)
theorem dX8_nextDefault_46 : decode cX8_nextDefault 46 = .ok (.if_icmp .ne 48, 3) := dk_s2 (y := 0) (z := 48) dk_g160 (by decide +kernel) rfl
theorem dX8_nextDefault_49 : decode cX8_nextDefault 49 = .ok (.aload_n 0, 1) := dk_n (t := []) dk_g42 (by decide +kernel)
theorem dX8_nextDefault_50 : decode cX8_nextDefault 50 = .ok (.aload 5, 2) := dk_u1 (y := 5) dk_g25 (by decide +kernel)
theorem dX8_nextDefault_52 : decode cX8_nextDefault 52 = .ok (.invokevirtual 75, 3) := dk_u2 (y := 0) (z := 75) dk_g182 (by decide +kernel) rfl
theorem dX8_nextDefault_55 : decode cX8_nextDefault 55 = .ok (.ifCond .eq 39, 3) := dk_s2 (y := 0) (z := 39) dk_g153 (by decide +kernel) rfl
theorem dX8_nextDefault_58 : decode cX8_nextDefault 58 = .ok (.iload_n 2, 1) := dk_n (t := []) dk_g28 (by decide +kernel)
theorem dX8_nextDefault_59 : decode cX8_nextDefault 59 = .ok (.iconst (-1), 1) := dk_n (t := []) dk_g2 (by decide +kernel)
theorem dX8_nextDefault_60 : decode cX8_nextDefault 60 = .ok (.if_icmp .eq 16, 3) := dk_s2 (y := 0) (z := 16) dk_g159 (by decide +kernel) rfl
theorem dX8_nextDefault_63 : decode cX8_nextDefault 63 = .ok (.aload_n 0, 1) := dk_n (t := []) dk_g42 (by decide +kernel)
theorem dX8_nextDefault_64 : decode cX8_nextDefault 64 = .ok (.iload 4, 2) := dk_u1 (y := 4) dk_g21 (by decide +kernel)
theorem dX8_nextDefault_66 : decode cX8_nextDefault 66 = .ok (.iload_n 2, 1) := dk_n (t := []) dk_g28 (by decide +kernel)
theorem dX8_nextDefault_67 : decode cX8_nextDefault 67 = .ok (.invokevirtual 148, 3) := dk_u2 (y := 0) (z := 148) dk_g182 (by decide +kernel) rfl
theorem dX8_nextDefault_70 : decode cX8_nextDefault 70 = .ok (.ifCond .ne 6, 3) := dk_s2 (y := 0) (z := 6) dk_g154 (by decide +kernel) rfl
theorem dX8_nextDefault_73 : decode cX8_nextDefault 73 = .ok (.goto 21, 3) := dk_s2 (y := 0) (z := 21) dk_g167 (by decide +kernel) rfl
theorem dX8_nextDefault_76 : decode cX8_nextDefault 76 = .ok (.iload_n 3, 1) := dk_n (t := []) dk_g29 (by decide +kernel)
theorem dX8_nextDefault_77 : decode cX8_nextDefault 77 = .ok (.iconst (-1), 1) := dk_n (t := []) dk_g2 (by decide +kernel)
theorem dX8_nextDefault_78 : decode cX8_nextDefault 78 = .ok (.if_icmp .eq 13, 3) := dk_s2 (y := 0) (z := 13) dk_g159 (by decide +kernel) rfl
theorem dX8_nextDefault_81 : decode cX8_nextDefault 81 = .ok (.aload_n 0, 1) := dk_n (t := []) dk_g42 (by decide +kernel)
theorem dX8_nextDefault_82 : decode cX8_nextDefault 82 = .ok (.iload_n 3, 1) := dk_n (t := []) dk_g29 (by decide +kernel)
theorem dX8_nextDefault_83 : decode cX8_nextDefault 83 = .ok (.iload 4, 2) := dk_u1 (y := 4) dk_g21 (by decide +kernel)
theorem dX8_nextDefault_85 : decode cX8_nextDefault 85 = .ok (.invokevirtual 148, 3) := dk_u2 (y := 0) (z := 148) dk_g182 (by decide +kernel) rfl
theorem dX8_nextDefault_88 : decode cX8_nextDefault 88 = .ok (.ifCond .eq 6, 3) := dk_s2 (y := 0) (z := 6) dk_g153 (by decide +kernel) rfl
theorem dX8_nextDefault_91 : decode cX8_nextDefault 91 = .ok (.iload 4, 2) := dk_u1 (y := 4) dk_g21 (by decide +kernel)
theorem dX8_nextDefault_93 : decode cX8_nextDefault 93 = .ok (.istore_n 3, 1) := dk_n (t := []) dk_g62 (by decide +kernel)
theorem dX8_nextDefault_94 : decode cX8_nextDefault 94 = .ok (.iinc 4 1, 3) := dk_ii (y := 4) (z := 1) dk_g132 (by decide +kernel) rfl
theorem dX8_nextDefault_97 : decode cX8_nextDefault 97 = .ok (.goto (-92), 3) := dk_s2 (y := 255) (z := 164) dk_g167 (by decide +kernel) rfl
theorem dX8_nextDefault_100 : decode cX8_nextDefault 100 = .ok (.iload_n 3, 1) := dk_n (t := []) dk_g29 (by decide +kernel)
theorem dX8_nextDefault_101 : decode cX8_nextDefault 101 = .ok (.ireturn, 1) := dk_n (t := []) dk_g172 (by decide +kernel)
theorem dX8_isBehind_0 : decode cX8_isBehind 0 = .ok (.aload_n 0, 1) := dk_n (t := []) dk_g42 (by decide +kernel)
theorem dX8_isBehind_1 : decode cX8_isBehind 1 = .ok (.getfield 19, 3) := dk_u2 (y := 0) (z := 19) dk_g180 (by decide +kernel) rfl
theorem dX8_isBehind_4 : decode cX8_isBehind 4 = .ok (.iload_n 1, 1) := dk_n (t := []) dk_g27 (by decide +kernel)
theorem dX8_isBehind_5 : decode cX8_isBehind 5 = .ok (.invokevirtual 71, 3) := dk_u2 (y := 0) (z := 71) dk_g182 (by decide +kernel) rfl
theorem dX8_isBehind_8 : decode cX8_isBehind 8 = .ok (.checkcast 57, 3) := dk_u2 (y := 0) (z := 57) dk_g192 (by decide +kernel) rfl
theorem dX8_isBehind_11 : decode cX8_isBehind 11 = .ok (.astore_n 3, 1) := dk_n (t := []) dk_g78 (by decide +kernel)
theorem dX8_isBehind_12 : decode cX8_isBehind 12 = .ok (.aload_n 0, 1) := dk_n (t := []) dk_g42 (by decide +kernel)
theorem dX8_isBehind_13 : decode cX8_isBehind 13 = .ok (.getfield 19, 3) := dk_u2 (y := 0) (z := 19) dk_g180 (by decide +kernel) rfl
theorem dX8_isBehind_16 : decode cX8_isBehind 16 = .ok (.iload_n 2, 1) := dk_n (t := []) dk_g28 (by decide +kernel)
theorem dX8_isBehind_17 : decode cX8_isBehind 17 = .ok (.invokevirtual 71, 3) := dk_u2 (y := 0) (z := 71) dk_g182 (by decide +kernel) rfl
theorem dX8_isBehind_20 : decode cX8_isBehind 20 = .ok (.checkcast 57, 3) := dk_u2 (y := 0) (z := 57) dk_g192 (by decide +kernel) rfl
theorem dX8_isBehind_23 : decode cX8_isBehind 23 = .ok (.astore 4, 2) := dk_u1 (y := 4) dk_g58 (by decide +kernel)
theorem dX8_isBehind_25 : decode cX8_isBehind 25 = .ok (.aload_n 3, 1) := dk_n (t := []) dk_g45 (by decide +kernel)
theorem dX8_isBehind_26 : decode cX8_isBehind 26 = .ok (.getfield 94, 3) := dk_u2 (y := 0) (z := 94) dk_g180 (by decide +kernel) rfl
theorem dX8_isBehind_29 : decode cX8_isBehind 29 = .ok (.aload 4, 2) := dk_u1 (y := 4) dk_g25 (by decide +kernel)
theorem dX8_isBehind_31 : decode cX8_isBehind 31 = .ok (.getfield 94, 3) := dk_u2 (y := 0) (z := 94) dk_g180 (by decide +kernel) rfl
theorem dX8_isBehind_34 : decode cX8_isBehind 34 = .ok (.if_icmp .ne 15, 3) := dk_s2 (y := 0) (z := 15) dk_g160 (by decide +kernel) rfl
theorem dX8_isBehind_37 : decode cX8_isBehind 37 = .ok (.aload_n 3, 1) := dk_n (t := []) dk_g45 (by decide +kernel)
theorem dX8_isBehind_38 : decode cX8_isBehind 38 = .ok (.getfield 91, 3) := dk_u2 (y := 0) (z := 91) dk_g180 (by decide +kernel) rfl
theorem dX8_isBehind_41 : decode cX8_isBehind 41 = .ok (.aload 4, 2) := dk_u1 (y := 4) dk_g25 (by decide +kernel)
theorem dX8_isBehind_43 : decode cX8_isBehind 43 = .ok (.getfield 91, 3) := dk_u2 (y := 0) (z := 91) dk_g180 (by decide +kernel) rfl
theorem dX8_isBehind_46 : decode cX8_isBehind 46 = .ok (.if_icmp .eq 45, 3) := dk_s2 (y := 0) (z := 45) dk_g159 (by decide +kernel) rfl
theorem dX8_isBehind_49 : decode cX8_isBehind 49 = .ok (.aload_n 3, 1) := dk_n (t := []) dk_g45 (by decide +kernel)
theorem dX8_isBehind_50 : decode cX8_isBehind 50 = .ok (.getfield 94, 3) := dk_u2 (y := 0) (z := 94) dk_g180 (by decide +kernel) rfl
theorem dX8_isBehind_53 : decode cX8_isBehind 53 = .ok (.aload 4, 2) := dk_u1 (y := 4) dk_g25 (by decide +kernel)
theorem dX8_isBehind_55 : decode cX8_isBehind 55 = .ok (.getfield 94, 3) := dk_u2 (y := 0) (z := 94) dk_g180 (by decide +kernel) rfl
theorem dX8_isBehind_58 : decode cX8_isBehind 58 = .ok (.if_icmp .lt 27, 3) := dk_s2 (y := 0) (z := 27) dk_g161 (by decide +kernel) rfl
theorem dX8_isBehind_61 : decode cX8_isBehind 61 = .ok (.aload_n 3, 1) := dk_n (t := []) dk_g45 (by decide +kernel)
theorem dX8_isBehind_62 : decode cX8_isBehind 62 = .ok (.getfield 94, 3) := dk_u2 (y := 0) (z := 94) dk_g180 (by decide +kernel) rfl
theorem dX8_isBehind_65 : decode cX8_isBehind 65 = .ok (.aload 4, 2) := dk_u1 (y := 4) dk_g25 (by decide +kernel)
theorem dX8_isBehind_67 : decode cX8_isBehind 67 = .ok (.getfield 94, 3) := dk_u2 (y := 0) (z := 94) dk_g180 (by decide +kernel) rfl
theorem dX8_isBehind_70 : decode cX8_isBehind 70 = .ok (.if_icmp .ne 19, 3) := dk_s2 (y := 0) (z := 19) dk_g160 (by decide +kernel) rfl
theorem dX8_isBehind_73 : decode cX8_isBehind 73 = .ok (.aload_n 3, 1) := dk_n (t := []) dk_g45 (by decide +kernel)
theorem dX8_isBehind_74 : decode cX8_isBehind 74 = .ok (.getfield 91, 3) := dk_u2 (y := 0) (z := 91) dk_g180 (by decide +kernel) rfl
theorem dX8_isBehind_77 : decode cX8_isBehind 77 = .ok (.aload 4, 2) := dk_u1 (y := 4) dk_g25 (by decide +kernel)
theorem dX8_isBehind_79 : decode cX8_isBehind 79 = .ok (.getfield 91, 3) := dk_u2 (y := 0) (z := 91) dk_g180 (by decide +kernel) rfl
theorem dX8_isBehind_82 : decode cX8_isBehind 82 = .ok (.if_icmp .le 7, 3) := dk_s2 (y := 0) (z := 7) dk_g164 (by decide +kernel) rfl
theorem dX8_isBehind_85 : decode cX8_isBehind 85 = .ok (.iconst 1, 1) := dk_n (t := []) dk_g4 (by decide +kernel)
theorem dX8_isBehind_86 : decode cX8_isBehind 86 = .ok (.goto 4, 3) := dk_s2 (y := 0) (z := 4) dk_g167 (by decide +kernel) rfl
theorem dX8_isBehind_89 : decode cX8_isBehind 89 = .ok (.iconst 0, 1) := dk_n (t := []) dk_g3 (by decide +kernel)
theorem dX8_isBehind_90 : decode cX8_isBehind 90 = .ok (.ireturn, 1) := dk_n (t := []) dk_g172 (by decide +kernel)
theorem dX8_isBehind_91 : decode cX8_isBehind 91 = .ok (.iload_n 1, 1) := dk_n (t := []) dk_g27 (by decide +kernel)
theorem dX8_isBehind_92 : decode cX8_isBehind 92 = .ok (.iload_n 2, 1) := dk_n (t := []) dk_g28 (by decide +kernel)
theorem dX8_isBehind_93 : decode cX8_isBehind 93 = .ok (.if_icmp .le 7, 3) := dk_s2 (y := 0) (z := 7) dk_g164 (by decide +kernel) rfl
theorem dX8_isBehind_96 : decode cX8_isBehind 96 = .ok (.iconst 1, 1) := dk_n (t := []) dk_g4 (by decide +kernel)
theorem dX8_isBehind_97 : decode cX8_isBehind 97 = .ok (.goto 4, 3) := dk_s2 (y := 0) (z := 4) dk_g167 (by decide +kernel) rfl
theorem dX8_isBehind_100 : decode cX8_isBehind 100 = .ok (.iconst 0, 1) := dk_n (t := []) dk_g3 (by decide +kernel)
theorem dX8_isBehind_101 : decode cX8_isBehind 101 = .ok (.ireturn, 1) := dk_n (t := []) dk_g172 (by decide +kernel)
theorem dX8_settle_0 : decode cX8_settle 0 = .ok (.aload_n 0, 1) := dk_n (t := []) dk_g42 (by decide +kernel)
theorem dX8_settle_1 : decode cX8_settle 1 = .ok (.invokevirtual 151, 3) := dk_u2 (y := 0) (z := 151) dk_g182 (by decide +kernel) rfl
theorem dX8_settle_4 : decode cX8_settle 4 = .ok (.istore_n 1, 1) := dk_n (t := []) dk_g60 (by decide +kernel)
theorem dX8_settle_5 : decode cX8_settle 5 = .ok (.aload_n 0, 1) := dk_n (t := []) dk_g42 (by decide +kernel)
theorem dX8_settle_6 : decode cX8_settle 6 = .ok (.iconst 0, 1) := dk_n (t := []) dk_g3 (by decide +kernel)
theorem dX8_settle_7 : decode cX8_settle 7 = .ok (.iload_n 1, 1) := dk_n (t := []) dk_g27 (by decide +kernel)
theorem dX8_settle_8 : decode cX8_settle 8 = .ok (.invokevirtual 154, 3) := dk_u2 (y := 0) (z := 154) dk_g182 (by decide +kernel) rfl
theorem dX8_settle_11 : decode cX8_settle 11 = .ok (.ifCond .eq 4, 3) := dk_s2 (y := 0) (z := 4) dk_g153 (by decide +kernel) rfl
theorem dX8_settle_14 : decode cX8_settle 14 = .ok (.return_, 1) := dk_n (t := []) dk_g177 (by decide +kernel)
theorem dX8_settle_15 : decode cX8_settle 15 = .ok (.iconst 0, 1) := dk_n (t := []) dk_g3 (by decide +kernel)
theorem dX8_settle_16 : decode cX8_settle 16 = .ok (.istore_n 2, 1) := dk_n (t := []) dk_g61 (by decide +kernel)
theorem dX8_settle_17 : decode cX8_settle 17 = .ok (.iload_n 2, 1) := dk_n (t := []) dk_g28 (by decide +kernel)
theorem dX8_settle_18 : decode cX8_settle 18 = .ok (.aload_n 0, 1) := dk_n (t := []) dk_g42 (by decide +kernel)
theorem dX8_settle_19 : decode cX8_settle 19 = .ok (.getfield 45, 3) := dk_u2 (y := 0) (z := 45) dk_g180 (by decide +kernel) rfl
theorem dX8_settle_22 : decode cX8_settle 22 = .ok (.if_icmp .ge 119, 3) := dk_s2 (y := 0) (z := 119) dk_g162 (by decide +kernel) rfl
theorem dX8_settle_25 : decode cX8_settle 25 = .ok (.aload_n 0, 1) := dk_n (t := []) dk_g42 (by decide +kernel)
theorem dX8_settle_26 : decode cX8_settle 26 = .ok (.iconst 0, 1) := dk_n (t := []) dk_g3 (by decide +kernel)
theorem dX8_settle_27 : decode cX8_settle 27 = .ok (.iload_n 2, 1) := dk_n (t := []) dk_g28 (by decide +kernel)
theorem dX8_settle_28 : decode cX8_settle 28 = .ok (.invokevirtual 157, 3) := dk_u2 (y := 0) (z := 157) dk_g182 (by decide +kernel) rfl
theorem dX8_settle_31 : decode cX8_settle 31 = .ok (.iconst 2, 1) := dk_n (t := []) dk_g5 (by decide +kernel)
theorem dX8_settle_32 : decode cX8_settle 32 = .ok (.if_icmp .ge 6, 3) := dk_s2 (y := 0) (z := 6) dk_g162 (by decide +kernel) rfl
theorem dX8_settle_35 : decode cX8_settle 35 = .ok (.goto 100, 3) := dk_s2 (y := 0) (z := 100) dk_g167 (by decide +kernel) rfl
theorem dX8_settle_38 : decode cX8_settle 38 = .ok (.iconst 1, 1) := dk_n (t := []) dk_g4 (by decide +kernel)
theorem dX8_settle_39 : decode cX8_settle 39 = .ok (.istore_n 3, 1) := dk_n (t := []) dk_g62 (by decide +kernel)
theorem dX8_settle_40 : decode cX8_settle 40 = .ok (.aload_n 0, 1) := dk_n (t := []) dk_g42 (by decide +kernel)
theorem dX8_settle_41 : decode cX8_settle 41 = .ok (.iload_n 2, 1) := dk_n (t := []) dk_g28 (by decide +kernel)
theorem dX8_settle_42 : decode cX8_settle 42 = .ok (.iconst (-1), 1) := dk_n (t := []) dk_g2 (by decide +kernel)
theorem dX8_settle_43 : decode cX8_settle 43 = .ok (.invokevirtual 160, 3) := dk_u2 (y := 0) (z := 160) dk_g182 (by decide +kernel) rfl
theorem dX8_settle_46 : decode cX8_settle 46 = .ok (.istore 4, 2) := dk_u1 (y := 4) dk_g54 (by decide +kernel)
theorem dX8_settle_48 : decode cX8_settle 48 = .ok (.iload 4, 2) := dk_u1 (y := 4) dk_g21 (by decide +kernel)
theorem dX8_settle_50 : decode cX8_settle 50 = .ok (.iconst (-1), 1) := dk_n (t := []) dk_g2 (by decide +kernel)
theorem dX8_settle_51 : decode cX8_settle 51 = .ok (.if_icmp .eq 84, 3) := dk_s2 (y := 0) (z := 84) dk_g159 (by decide +kernel) rfl
theorem dX8_settle_54 : decode cX8_settle 54 = .ok (.iload_n 3, 1) := dk_n (t := []) dk_g29 (by decide +kernel)
theorem dX8_settle_55 : decode cX8_settle 55 = .ok (.ifCond .eq 80, 3) := dk_s2 (y := 0) (z := 80) dk_g153 (by decide +kernel) rfl
theorem dX8_settle_58 : decode cX8_settle 58 = .ok (.aload_n 0, 1) := dk_n (t := []) dk_g42 (by decide +kernel)
theorem dX8_settle_59 : decode cX8_settle 59 = .ok (.getfield 19, 3) := dk_u2 (y := 0) (z := 19) dk_g180 (by decide +kernel) rfl
theorem dX8_settle_62 : decode cX8_settle 62 = .ok (.iload 4, 2) := dk_u1 (y := 4) dk_g21 (by decide +kernel)
theorem dX8_settle_64 : decode cX8_settle 64 = .ok (.invokevirtual 71, 3) := dk_u2 (y := 0) (z := 71) dk_g182 (by decide +kernel) rfl
theorem dX8_settle_67 : decode cX8_settle 67 = .ok (.checkcast 57, 3) := dk_u2 (y := 0) (z := 57) dk_g192 (by decide +kernel) rfl
theorem dX8_settle_70 : decode cX8_settle 70 = .ok (.getfield 91, 3) := dk_u2 (y := 0) (z := 91) dk_g180 (by decide +kernel) rfl
theorem dX8_settle_73 : decode cX8_settle 73 = .ok (.istore 5, 2) := dk_u1 (y := 5) dk_g54 (by decide +kernel)
theorem dX8_settle_75 : decode cX8_settle 75 = .ok (.aload_n 0, 1) := dk_n (t := []) dk_g42 (by decide +kernel)
theorem dX8_settle_76 : decode cX8_settle 76 = .ok (.iconst 0, 1) := dk_n (t := []) dk_g3 (by decide +kernel)
theorem dX8_settle_77 : decode cX8_settle 77 = .ok (.iload_n 2, 1) := dk_n (t := []) dk_g28 (by decide +kernel)
theorem dX8_settle_78 : decode cX8_settle 78 = .ok (.iload 5, 2) := dk_u1 (y := 5) dk_g21 (by decide +kernel)
theorem dX8_settle_80 : decode cX8_settle 80 = .ok (.invokevirtual 163, 3) := dk_u2 (y := 0) (z := 163) dk_g182 (by decide +kernel) rfl
theorem dX8_settle_83 : decode cX8_settle 83 = .ok (.ifCond .ne 6, 3) := dk_s2 (y := 0) (z := 6) dk_g154 (by decide +kernel) rfl
theorem dX8_settle_86 : decode cX8_settle 86 = .ok (.goto 37, 3) := dk_s2 (y := 0) (z := 37) dk_g167 (by decide +kernel) rfl
theorem dX8_settle_89 : decode cX8_settle 89 = .ok (.aload_n 0, 1) := dk_n (t := []) dk_g42 (by decide +kernel)
theorem dX8_settle_90 : decode cX8_settle 90 = .ok (.iconst 0, 1) := dk_n (t := []) dk_g3 (by decide +kernel)
theorem dX8_settle_91 : decode cX8_settle 91 = .ok (.iconst 1, 1) := dk_n (t := []) dk_g4 (by decide +kernel)
theorem dX8_settle_92 : decode cX8_settle 92 = .ok (.invokevirtual 166, 3) := dk_u2 (y := 0) (z := 166) dk_g182 (by decide +kernel) rfl
theorem dX8_settle_95 : decode cX8_settle 95 = .ok (.aload_n 0, 1) := dk_n (t := []) dk_g42 (by decide +kernel)
theorem dX8_settle_96 : decode cX8_settle 96 = .ok (.iconst 1, 1) := dk_n (t := []) dk_g4 (by decide +kernel)
theorem dX8_settle_97 : decode cX8_settle 97 = .ok (.iload_n 2, 1) := dk_n (t := []) dk_g28 (by decide +kernel)
theorem dX8_settle_98 : decode cX8_settle 98 = .ok (.iload 5, 2) := dk_u1 (y := 5) dk_g21 (by decide +kernel)
theorem dX8_settle_100 : decode cX8_settle 100 = .ok (.invokevirtual 170, 3) := dk_u2 (y := 0) (z := 170) dk_g182 (by decide +kernel) rfl
theorem dX8_settle_103 : decode cX8_settle 103 = .ok (.aload_n 0, 1) := dk_n (t := []) dk_g42 (by decide +kernel)
theorem dX8_settle_104 : decode cX8_settle 104 = .ok (.iconst 1, 1) := dk_n (t := []) dk_g4 (by decide +kernel)
theorem dX8_settle_105 : decode cX8_settle 105 = .ok (.iload_n 1, 1) := dk_n (t := []) dk_g27 (by decide +kernel)
theorem dX8_settle_106 : decode cX8_settle 106 = .ok (.invokevirtual 144, 3) := dk_u2 (y := 0) (z := 144) dk_g182 (by decide +kernel) rfl
theorem dX8_settle_109 : decode cX8_settle 109 = .ok (.ifCond .eq 6, 3) := dk_s2 (y := 0) (z := 6) dk_g153 (by decide +kernel) rfl
theorem dX8_settle_112 : decode cX8_settle 112 = .ok (.goto 11, 3) := dk_s2 (y := 0) (z := 11) dk_g167 (by decide +kernel) rfl
theorem dX8_settle_115 : decode cX8_settle 115 = .ok (.aload_n 0, 1) := dk_n (t := []) dk_g42 (by decide +kernel)
theorem dX8_settle_116 : decode cX8_settle 116 = .ok (.iconst 1, 1) := dk_n (t := []) dk_g4 (by decide +kernel)
theorem dX8_settle_117 : decode cX8_settle 117 = .ok (.iconst 0, 1) := dk_n (t := []) dk_g3 (by decide +kernel)
theorem dX8_settle_118 : decode cX8_settle 118 = .ok (.invokevirtual 166, 3) := dk_u2 (y := 0) (z := 166) dk_g182 (by decide +kernel) rfl
theorem dX8_settle_121 : decode cX8_settle 121 = .ok (.iconst 0, 1) := dk_n (t := []) dk_g3 (by decide +kernel)
theorem dX8_settle_122 : decode cX8_settle 122 = .ok (.istore_n 3, 1) := dk_n (t := []) dk_g62 (by decide +kernel)
theorem dX8_settle_123 : decode cX8_settle 123 = .ok (.aload_n 0, 1) := dk_n (t := []) dk_g42 (by decide +kernel)
theorem dX8_settle_124 : decode cX8_settle 124 = .ok (.iload_n 2, 1) := dk_n (t := []) dk_g28 (by decide +kernel)
theorem dX8_settle_125 : decode cX8_settle 125 = .ok (.iload 4, 2) := dk_u1 (y := 4) dk_g21 (by decide +kernel)
theorem dX8_settle_127 : decode cX8_settle 127 = .ok (.invokevirtual 160, 3) := dk_u2 (y := 0) (z := 160) dk_g182 (by decide +kernel) rfl
theorem dX8_settle_130 : decode cX8_settle 130 = .ok (.istore 4, 2) := dk_u1 (y := 4) dk_g54 (by decide +kernel)
theorem dX8_settle_132 : decode cX8_settle 132 = .ok (.goto (-84), 3) := dk_s2 (y := 255) (z := 172) dk_g167 (by decide +kernel) rfl
theorem dX8_settle_135 : decode cX8_settle 135 = .ok (.iinc 2 1, 3) := dk_ii (y := 2) (z := 1) dk_g132 (by decide +kernel) rfl
theorem dX8_settle_138 : decode cX8_settle 138 = .ok (.goto (-121), 3) := dk_s2 (y := 255) (z := 135) dk_g167 (by decide +kernel) rfl
theorem dX8_settle_141 : decode cX8_settle 141 = .ok (.return_, 1) := dk_n (t := []) dk_g177 (by decide +kernel)
theorem dX8_whatIs_0 : decode cX8_whatIs 0 = .ok (.aload_n 0, 1) := dk_n (t := []) dk_g42 (by decide +kernel)
theorem dX8_whatIs_1 : decode cX8_whatIs 1 = .ok (.invokevirtual 174, 3) := dk_u2 (y := 0) (z := 174) dk_g182 (by decide +kernel) rfl
theorem dX8_whatIs_4 : decode cX8_whatIs 4 = .ok (.aload_n 0, 1) := dk_n (t := []) dk_g42 (by decide +kernel)
theorem dX8_whatIs_5 : decode cX8_whatIs 5 = .ok (.iconst 0, 1) := dk_n (t := []) dk_g3 (by decide +kernel)
theorem dX8_whatIs_6 : decode cX8_whatIs 6 = .ok (.iload_n 1, 1) := dk_n (t := []) dk_g27 (by decide +kernel)
theorem dX8_whatIs_7 : decode cX8_whatIs 7 = .ok (.invokevirtual 157, 3) := dk_u2 (y := 0) (z := 157) dk_g182 (by decide +kernel) rfl
theorem dX8_whatIs_10 : decode cX8_whatIs 10 = .ok (.iconst 1, 1) := dk_n (t := []) dk_g4 (by decide +kernel)
theorem dX8_whatIs_11 : decode cX8_whatIs 11 = .ok (.if_icmp .ne 12, 3) := dk_s2 (y := 0) (z := 12) dk_g160 (by decide +kernel) rfl
theorem dX8_whatIs_14 : decode cX8_whatIs 14 = .ok (.aload_n 0, 1) := dk_n (t := []) dk_g42 (by decide +kernel)
theorem dX8_whatIs_15 : decode cX8_whatIs 15 = .ok (.iconst 0, 1) := dk_n (t := []) dk_g3 (by decide +kernel)
theorem dX8_whatIs_16 : decode cX8_whatIs 16 = .ok (.iload_n 1, 1) := dk_n (t := []) dk_g27 (by decide +kernel)
theorem dX8_whatIs_17 : decode cX8_whatIs 17 = .ok (.invokevirtual 177, 3) := dk_u2 (y := 0) (z := 177) dk_g182 (by decide +kernel) rfl
theorem dX8_whatIs_20 : decode cX8_whatIs 20 = .ok (.goto 4, 3) := dk_s2 (y := 0) (z := 4) dk_g167 (by decide +kernel) rfl
theorem dX8_whatIs_23 : decode cX8_whatIs 23 = .ok (.iconst (-1), 1) := dk_n (t := []) dk_g2 (by decide +kernel)
theorem dX8_whatIs_24 : decode cX8_whatIs 24 = .ok (.ireturn, 1) := dk_n (t := []) dk_g172 (by decide +kernel)
theorem dX8_isContradiction_0 : decode cX8_isContradiction 0 = .ok (.aload_n 0, 1) := dk_n (t := []) dk_g42 (by decide +kernel)
theorem dX8_isContradiction_1 : decode cX8_isContradiction 1 = .ok (.iconst 0, 1) := dk_n (t := []) dk_g3 (by decide +kernel)
theorem dX8_isContradiction_2 : decode cX8_isContradiction 2 = .ok (.aload_n 0, 1) := dk_n (t := []) dk_g42 (by decide +kernel)
theorem dX8_isContradiction_3 : decode cX8_isContradiction 3 = .ok (.invokevirtual 151, 3) := dk_u2 (y := 0) (z := 151) dk_g182 (by decide +kernel) rfl
theorem dX8_isContradiction_6 : decode cX8_isContradiction 6 = .ok (.invokevirtual 154, 3) := dk_u2 (y := 0) (z := 154) dk_g182 (by decide +kernel) rfl
theorem dX8_isContradiction_9 : decode cX8_isContradiction 9 = .ok (.ireturn, 1) := dk_n (t := []) dk_g172 (by decide +kernel)
theorem dX8_mayBe_0 : decode cX8_mayBe 0 = .ok (.aload_n 0, 1) := dk_n (t := []) dk_g42 (by decide +kernel)
theorem dX8_mayBe_1 : decode cX8_mayBe 1 = .ok (.iconst 0, 1) := dk_n (t := []) dk_g3 (by decide +kernel)
theorem dX8_mayBe_2 : decode cX8_mayBe 2 = .ok (.aload_n 0, 1) := dk_n (t := []) dk_g42 (by decide +kernel)
theorem dX8_mayBe_3 : decode cX8_mayBe 3 = .ok (.invokevirtual 151, 3) := dk_u2 (y := 0) (z := 151) dk_g182 (by decide +kernel) rfl
theorem dX8_mayBe_6 : decode cX8_mayBe 6 = .ok (.invokevirtual 154, 3) := dk_u2 (y := 0) (z := 154) dk_g182 (by decide +kernel) rfl
theorem dX8_mayBe_9 : decode cX8_mayBe 9 = .ok (.pop, 1) := dk_n (t := []) dk_g87 (by decide +kernel)
theorem dX8_mayBe_10 : decode cX8_mayBe 10 = .ok (.aload_n 0, 1) := dk_n (t := []) dk_g42 (by decide +kernel)
theorem dX8_mayBe_11 : decode cX8_mayBe 11 = .ok (.iconst 0, 1) := dk_n (t := []) dk_g3 (by decide +kernel)
theorem dX8_mayBe_12 : decode cX8_mayBe 12 = .ok (.iload_n 1, 1) := dk_n (t := []) dk_g27 (by decide +kernel)
theorem dX8_mayBe_13 : decode cX8_mayBe 13 = .ok (.invokevirtual 114, 3) := dk_u2 (y := 0) (z := 114) dk_g182 (by decide +kernel) rfl
theorem dX8_mayBe_16 : decode cX8_mayBe 16 = .ok (.ireturn, 1) := dk_n (t := []) dk_g172 (by decide +kernel)
theorem dX8_reasonFor_0 : decode cX8_reasonFor 0 = .ok (.aload_n 0, 1) := dk_n (t := []) dk_g42 (by decide +kernel)
theorem dX8_reasonFor_1 : decode cX8_reasonFor 1 = .ok (.invokevirtual 151, 3) := dk_u2 (y := 0) (z := 151) dk_g182 (by decide +kernel) rfl
theorem dX8_reasonFor_4 : decode cX8_reasonFor 4 = .ok (.istore_n 2, 1) := dk_n (t := []) dk_g61 (by decide +kernel)
theorem dX8_reasonFor_5 : decode cX8_reasonFor 5 = .ok (.aload_n 0, 1) := dk_n (t := []) dk_g42 (by decide +kernel)
theorem dX8_reasonFor_6 : decode cX8_reasonFor 6 = .ok (.iconst 0, 1) := dk_n (t := []) dk_g3 (by decide +kernel)
theorem dX8_reasonFor_7 : decode cX8_reasonFor 7 = .ok (.iload_n 2, 1) := dk_n (t := []) dk_g28 (by decide +kernel)
theorem dX8_reasonFor_8 : decode cX8_reasonFor 8 = .ok (.invokevirtual 154, 3) := dk_u2 (y := 0) (z := 154) dk_g182 (by decide +kernel) rfl
theorem dX8_reasonFor_11 : decode cX8_reasonFor 11 = .ok (.istore_n 3, 1) := dk_n (t := []) dk_g62 (by decide +kernel)
theorem dX8_reasonFor_12 : decode cX8_reasonFor 12 = .ok (.iload_n 1, 1) := dk_n (t := []) dk_g27 (by decide +kernel)
theorem dX8_reasonFor_13 : decode cX8_reasonFor 13 = .ok (.iconst (-1), 1) := dk_n (t := []) dk_g2 (by decide +kernel)
theorem dX8_reasonFor_14 : decode cX8_reasonFor 14 = .ok (.if_icmp .ne 9, 3) := dk_s2 (y := 0) (z := 9) dk_g160 (by decide +kernel) rfl
theorem dX8_reasonFor_17 : decode cX8_reasonFor 17 = .ok (.iload_n 3, 1) := dk_n (t := []) dk_g29 (by decide +kernel)
theorem dX8_reasonFor_18 : decode cX8_reasonFor 18 = .ok (.ifCond .ne 5, 3) := dk_s2 (y := 0) (z := 5) dk_g154 (by decide +kernel) rfl
theorem dX8_reasonFor_21 : decode cX8_reasonFor 21 = .ok (.iconst 0, 1) := dk_n (t := []) dk_g3 (by decide +kernel)
theorem dX8_reasonFor_22 : decode cX8_reasonFor 22 = .ok (.ireturn, 1) := dk_n (t := []) dk_g172 (by decide +kernel)
theorem dX8_reasonFor_23 : decode cX8_reasonFor 23 = .ok (.iload_n 3, 1) := dk_n (t := []) dk_g29 (by decide +kernel)
theorem dX8_reasonFor_24 : decode cX8_reasonFor 24 = .ok (.ifCond .eq 7, 3) := dk_s2 (y := 0) (z := 7) dk_g153 (by decide +kernel) rfl
theorem dX8_reasonFor_27 : decode cX8_reasonFor 27 = .ok (.iconst 0, 1) := dk_n (t := []) dk_g3 (by decide +kernel)
theorem dX8_reasonFor_28 : decode cX8_reasonFor 28 = .ok (.goto 9, 3) := dk_s2 (y := 0) (z := 9) dk_g167 (by decide +kernel) rfl
theorem dX8_reasonFor_31 : decode cX8_reasonFor 31 = .ok (.aload_n 0, 1) := dk_n (t := []) dk_g42 (by decide +kernel)
theorem dX8_reasonFor_32 : decode cX8_reasonFor 32 = .ok (.iconst 0, 1) := dk_n (t := []) dk_g3 (by decide +kernel)
theorem dX8_reasonFor_33 : decode cX8_reasonFor 33 = .ok (.iload_n 1, 1) := dk_n (t := []) dk_g27 (by decide +kernel)
theorem dX8_reasonFor_34 : decode cX8_reasonFor 34 = .ok (.invokevirtual 114, 3) := dk_u2 (y := 0) (z := 114) dk_g182 (by decide +kernel) rfl
theorem dX8_reasonFor_37 : decode cX8_reasonFor 37 = .ok (.istore 4, 2) := dk_u1 (y := 4) dk_g54 (by decide +kernel)
theorem dX8_reasonFor_39 : decode cX8_reasonFor 39 = .ok (.iconst 0, 1) := dk_n (t := []) dk_g3 (by decide +kernel)
theorem dX8_reasonFor_40 : decode cX8_reasonFor 40 = .ok (.istore 5, 2) := dk_u1 (y := 5) dk_g54 (by decide +kernel)
theorem dX8_reasonFor_42 : decode cX8_reasonFor 42 = .ok (.iload 5, 2) := dk_u1 (y := 5) dk_g21 (by decide +kernel)
theorem dX8_reasonFor_44 : decode cX8_reasonFor 44 = .ok (.aload_n 0, 1) := dk_n (t := []) dk_g42 (by decide +kernel)
theorem dX8_reasonFor_45 : decode cX8_reasonFor 45 = .ok (.getfield 19, 3) := dk_u2 (y := 0) (z := 19) dk_g180 (by decide +kernel) rfl
theorem dX8_reasonFor_48 : decode cX8_reasonFor 48 = .ok (.invokevirtual 52, 3) := dk_u2 (y := 0) (z := 52) dk_g182 (by decide +kernel) rfl
theorem dX8_reasonFor_51 : decode cX8_reasonFor 51 = .ok (.if_icmp .ge 73, 3) := dk_s2 (y := 0) (z := 73) dk_g162 (by decide +kernel) rfl
theorem dX8_reasonFor_54 : decode cX8_reasonFor 54 = .ok (.iload_n 2, 1) := dk_n (t := []) dk_g28 (by decide +kernel)
theorem dX8_reasonFor_55 : decode cX8_reasonFor 55 = .ok (.iload 5, 2) := dk_u1 (y := 5) dk_g21 (by decide +kernel)
theorem dX8_reasonFor_57 : decode cX8_reasonFor 57 = .ok (.ishr, 1) := dk_n (t := []) dk_g122 (by decide +kernel)
theorem dX8_reasonFor_58 : decode cX8_reasonFor 58 = .ok (.iconst 1, 1) := dk_n (t := []) dk_g4 (by decide +kernel)
theorem dX8_reasonFor_59 : decode cX8_reasonFor 59 = .ok (.iand, 1) := dk_n (t := []) dk_g126 (by decide +kernel)
theorem dX8_reasonFor_60 : decode cX8_reasonFor 60 = .ok (.ifCond .ne 6, 3) := dk_s2 (y := 0) (z := 6) dk_g154 (by decide +kernel) rfl
theorem dX8_reasonFor_63 : decode cX8_reasonFor 63 = .ok (.goto 55, 3) := dk_s2 (y := 0) (z := 55) dk_g167 (by decide +kernel) rfl
theorem dX8_reasonFor_66 : decode cX8_reasonFor 66 = .ok (.aload_n 0, 1) := dk_n (t := []) dk_g42 (by decide +kernel)
theorem dX8_reasonFor_67 : decode cX8_reasonFor 67 = .ok (.iconst 0, 1) := dk_n (t := []) dk_g3 (by decide +kernel)
theorem dX8_reasonFor_68 : decode cX8_reasonFor 68 = .ok (.iload_n 2, 1) := dk_n (t := []) dk_g28 (by decide +kernel)
theorem dX8_reasonFor_69 : decode cX8_reasonFor 69 = .ok (.iconst 1, 1) := dk_n (t := []) dk_g4 (by decide +kernel)
theorem dX8_reasonFor_70 : decode cX8_reasonFor 70 = .ok (.iload 5, 2) := dk_u1 (y := 5) dk_g21 (by decide +kernel)
theorem dX8_reasonFor_72 : decode cX8_reasonFor 72 = .ok (.ishl, 1) := dk_n (t := []) dk_g120 (by decide +kernel)
theorem dX8_reasonFor_73 : decode cX8_reasonFor 73 = .ok (.iconst (-1), 1) := dk_n (t := []) dk_g2 (by decide +kernel)
theorem dX8_reasonFor_74 : decode cX8_reasonFor 74 = .ok (.ixor, 1) := dk_n (t := []) dk_g130 (by decide +kernel)
theorem dX8_reasonFor_75 : decode cX8_reasonFor 75 = .ok (.iand, 1) := dk_n (t := []) dk_g126 (by decide +kernel)
theorem dX8_reasonFor_76 : decode cX8_reasonFor 76 = .ok (.invokevirtual 154, 3) := dk_u2 (y := 0) (z := 154) dk_g182 (by decide +kernel) rfl
theorem dX8_reasonFor_79 : decode cX8_reasonFor 79 = .ok (.istore 6, 2) := dk_u1 (y := 6) dk_g54 (by decide +kernel)
theorem dX8_reasonFor_81 : decode cX8_reasonFor 81 = .ok (.iload_n 3, 1) := dk_n (t := []) dk_g29 (by decide +kernel)
theorem dX8_reasonFor_82 : decode cX8_reasonFor 82 = .ok (.ifCond .eq 11, 3) := dk_s2 (y := 0) (z := 11) dk_g153 (by decide +kernel) rfl
theorem dX8_reasonFor_85 : decode cX8_reasonFor 85 = .ok (.iload 6, 2) := dk_u1 (y := 6) dk_g21 (by decide +kernel)
theorem dX8_reasonFor_87 : decode cX8_reasonFor 87 = .ok (.ifCond .eq 31, 3) := dk_s2 (y := 0) (z := 31) dk_g153 (by decide +kernel) rfl
theorem dX8_reasonFor_90 : decode cX8_reasonFor 90 = .ok (.goto 19, 3) := dk_s2 (y := 0) (z := 19) dk_g167 (by decide +kernel) rfl
theorem dX8_reasonFor_93 : decode cX8_reasonFor 93 = .ok (.iload 6, 2) := dk_u1 (y := 6) dk_g21 (by decide +kernel)
theorem dX8_reasonFor_95 : decode cX8_reasonFor 95 = .ok (.ifCond .ne 23, 3) := dk_s2 (y := 0) (z := 23) dk_g154 (by decide +kernel) rfl
theorem dX8_reasonFor_98 : decode cX8_reasonFor 98 = .ok (.aload_n 0, 1) := dk_n (t := []) dk_g42 (by decide +kernel)
theorem dX8_reasonFor_99 : decode cX8_reasonFor 99 = .ok (.iconst 0, 1) := dk_n (t := []) dk_g3 (by decide +kernel)
theorem dX8_reasonFor_100 : decode cX8_reasonFor 100 = .ok (.iload_n 1, 1) := dk_n (t := []) dk_g27 (by decide +kernel)
theorem dX8_reasonFor_101 : decode cX8_reasonFor 101 = .ok (.invokevirtual 114, 3) := dk_u2 (y := 0) (z := 114) dk_g182 (by decide +kernel) rfl
theorem dX8_reasonFor_104 : decode cX8_reasonFor 104 = .ok (.iload 4, 2) := dk_u1 (y := 4) dk_g21 (by decide +kernel)
theorem dX8_reasonFor_106 : decode cX8_reasonFor 106 = .ok (.if_icmp .ne 12, 3) := dk_s2 (y := 0) (z := 12) dk_g160 (by decide +kernel) rfl
theorem dX8_reasonFor_109 : decode cX8_reasonFor 109 = .ok (.iload_n 2, 1) := dk_n (t := []) dk_g28 (by decide +kernel)
theorem dX8_reasonFor_110 : decode cX8_reasonFor 110 = .ok (.iconst 1, 1) := dk_n (t := []) dk_g4 (by decide +kernel)
theorem dX8_reasonFor_111 : decode cX8_reasonFor 111 = .ok (.iload 5, 2) := dk_u1 (y := 5) dk_g21 (by decide +kernel)
theorem dX8_reasonFor_113 : decode cX8_reasonFor 113 = .ok (.ishl, 1) := dk_n (t := []) dk_g120 (by decide +kernel)
theorem dX8_reasonFor_114 : decode cX8_reasonFor 114 = .ok (.iconst (-1), 1) := dk_n (t := []) dk_g2 (by decide +kernel)
theorem dX8_reasonFor_115 : decode cX8_reasonFor 115 = .ok (.ixor, 1) := dk_n (t := []) dk_g130 (by decide +kernel)
theorem dX8_reasonFor_116 : decode cX8_reasonFor 116 = .ok (.iand, 1) := dk_n (t := []) dk_g126 (by decide +kernel)
theorem dX8_reasonFor_117 : decode cX8_reasonFor 117 = .ok (.istore_n 2, 1) := dk_n (t := []) dk_g61 (by decide +kernel)
theorem dX8_reasonFor_118 : decode cX8_reasonFor 118 = .ok (.iinc 5 1, 3) := dk_ii (y := 5) (z := 1) dk_g132 (by decide +kernel) rfl
theorem dX8_reasonFor_121 : decode cX8_reasonFor 121 = .ok (.goto (-79), 3) := dk_s2 (y := 255) (z := 177) dk_g167 (by decide +kernel) rfl
theorem dX8_reasonFor_124 : decode cX8_reasonFor 124 = .ok (.iload_n 2, 1) := dk_n (t := []) dk_g28 (by decide +kernel)
theorem dX8_reasonFor_125 : decode cX8_reasonFor 125 = .ok (.ireturn, 1) := dk_n (t := []) dk_g172 (by decide +kernel)
theorem dX8_bound__0 : decode cX8_bound_ 0 = .ok (.iconst 0, 1) := dk_n (t := []) dk_g3 (by decide +kernel)
theorem dX8_bound__1 : decode cX8_bound_ 1 = .ok (.istore_n 2, 1) := dk_n (t := []) dk_g61 (by decide +kernel)
theorem dX8_bound__2 : decode cX8_bound_ 2 = .ok (.iconst 0, 1) := dk_n (t := []) dk_g3 (by decide +kernel)
theorem dX8_bound__3 : decode cX8_bound_ 3 = .ok (.istore_n 3, 1) := dk_n (t := []) dk_g62 (by decide +kernel)
theorem dX8_bound__4 : decode cX8_bound_ 4 = .ok (.iload_n 3, 1) := dk_n (t := []) dk_g29 (by decide +kernel)
theorem dX8_bound__5 : decode cX8_bound_ 5 = .ok (.aload_n 0, 1) := dk_n (t := []) dk_g42 (by decide +kernel)
theorem dX8_bound__6 : decode cX8_bound_ 6 = .ok (.getfield 45, 3) := dk_u2 (y := 0) (z := 45) dk_g180 (by decide +kernel) rfl
theorem dX8_bound__9 : decode cX8_bound_ 9 = .ok (.if_icmp .ge 25, 3) := dk_s2 (y := 0) (z := 25) dk_g162 (by decide +kernel) rfl
theorem dX8_bound__12 : decode cX8_bound_ 12 = .ok (.iload_n 2, 1) := dk_n (t := []) dk_g28 (by decide +kernel)
theorem dX8_bound__13 : decode cX8_bound_ 13 = .ok (.aload_n 0, 1) := dk_n (t := []) dk_g42 (by decide +kernel)
theorem dX8_bound__14 : decode cX8_bound_ 14 = .ok (.getfield 13, 3) := dk_u2 (y := 0) (z := 13) dk_g180 (by decide +kernel) rfl
theorem dX8_bound__17 : decode cX8_bound_ 17 = .ok (.iload_n 3, 1) := dk_n (t := []) dk_g29 (by decide +kernel)
theorem dX8_bound__18 : decode cX8_bound_ 18 = .ok (.iaload, 1) := dk_n (t := []) dk_g46 (by decide +kernel)
theorem dX8_bound__19 : decode cX8_bound_ 19 = .ok (.aload_n 0, 1) := dk_n (t := []) dk_g42 (by decide +kernel)
theorem dX8_bound__20 : decode cX8_bound_ 20 = .ok (.iload_n 1, 1) := dk_n (t := []) dk_g27 (by decide +kernel)
theorem dX8_bound__21 : decode cX8_bound_ 21 = .ok (.iload_n 3, 1) := dk_n (t := []) dk_g29 (by decide +kernel)
theorem dX8_bound__22 : decode cX8_bound_ 22 = .ok (.invokevirtual 177, 3) := dk_u2 (y := 0) (z := 177) dk_g182 (by decide +kernel) rfl
theorem dX8_bound__25 : decode cX8_bound_ 25 = .ok (.imul, 1) := dk_n (t := []) dk_g104 (by decide +kernel)
theorem dX8_bound__26 : decode cX8_bound_ 26 = .ok (.iadd, 1) := dk_n (t := []) dk_g96 (by decide +kernel)
theorem dX8_bound__27 : decode cX8_bound_ 27 = .ok (.istore_n 2, 1) := dk_n (t := []) dk_g61 (by decide +kernel)
theorem dX8_bound__28 : decode cX8_bound_ 28 = .ok (.iinc 3 1, 3) := dk_ii (y := 3) (z := 1) dk_g132 (by decide +kernel) rfl
theorem dX8_bound__31 : decode cX8_bound_ 31 = .ok (.goto (-27), 3) := dk_s2 (y := 255) (z := 229) dk_g167 (by decide +kernel) rfl
theorem dX8_bound__34 : decode cX8_bound_ 34 = .ok (.iload_n 2, 1) := dk_n (t := []) dk_g28 (by decide +kernel)
theorem dX8_bound__35 : decode cX8_bound_ 35 = .ok (.ireturn, 1) := dk_n (t := []) dk_g172 (by decide +kernel)
theorem dX8_choose_0 : decode cX8_choose 0 = .ok (.iload_n 1, 1) := dk_n (t := []) dk_g27 (by decide +kernel)
theorem dX8_choose_1 : decode cX8_choose 1 = .ok (.iconst 1, 1) := dk_n (t := []) dk_g4 (by decide +kernel)
theorem dX8_choose_2 : decode cX8_choose 2 = .ok (.isub, 1) := dk_n (t := []) dk_g100 (by decide +kernel)
theorem dX8_choose_3 : decode cX8_choose 3 = .ok (.istore_n 3, 1) := dk_n (t := []) dk_g62 (by decide +kernel)
theorem dX8_choose_4 : decode cX8_choose 4 = .ok (.iload_n 3, 1) := dk_n (t := []) dk_g29 (by decide +kernel)
theorem dX8_choose_5 : decode cX8_choose 5 = .ok (.aload_n 0, 1) := dk_n (t := []) dk_g42 (by decide +kernel)
theorem dX8_choose_6 : decode cX8_choose 6 = .ok (.getfield 45, 3) := dk_u2 (y := 0) (z := 45) dk_g180 (by decide +kernel) rfl
theorem dX8_choose_9 : decode cX8_choose 9 = .ok (.if_icmp .ne 37, 3) := dk_s2 (y := 0) (z := 37) dk_g160 (by decide +kernel) rfl
theorem dX8_choose_12 : decode cX8_choose 12 = .ok (.aload_n 0, 1) := dk_n (t := []) dk_g42 (by decide +kernel)
theorem dX8_choose_13 : decode cX8_choose 13 = .ok (.aload_n 0, 1) := dk_n (t := []) dk_g42 (by decide +kernel)
theorem dX8_choose_14 : decode cX8_choose 14 = .ok (.iload_n 1, 1) := dk_n (t := []) dk_g27 (by decide +kernel)
theorem dX8_choose_15 : decode cX8_choose 15 = .ok (.invokevirtual 180, 3) := dk_u2 (y := 0) (z := 180) dk_g182 (by decide +kernel) rfl
theorem dX8_choose_18 : decode cX8_choose 18 = .ok (.putfield 183, 3) := dk_u2 (y := 0) (z := 183) dk_g181 (by decide +kernel) rfl
theorem dX8_choose_21 : decode cX8_choose 21 = .ok (.aload_n 0, 1) := dk_n (t := []) dk_g42 (by decide +kernel)
theorem dX8_choose_22 : decode cX8_choose 22 = .ok (.dup, 1) := dk_n (t := []) dk_g89 (by decide +kernel)
theorem dX8_choose_23 : decode cX8_choose 23 = .ok (.getfield 186, 3) := dk_u2 (y := 0) (z := 186) dk_g180 (by decide +kernel) rfl
theorem dX8_choose_26 : decode cX8_choose 26 = .ok (.iconst 1, 1) := dk_n (t := []) dk_g4 (by decide +kernel)
theorem dX8_choose_27 : decode cX8_choose 27 = .ok (.iadd, 1) := dk_n (t := []) dk_g96 (by decide +kernel)
theorem dX8_choose_28 : decode cX8_choose 28 = .ok (.putfield 186, 3) := dk_u2 (y := 0) (z := 186) dk_g181 (by decide +kernel) rfl
theorem dX8_choose_31 : decode cX8_choose 31 = .ok (.aload_n 0, 1) := dk_n (t := []) dk_g42 (by decide +kernel)
theorem dX8_choose_32 : decode cX8_choose 32 = .ok (.getfield 35, 3) := dk_u2 (y := 0) (z := 35) dk_g180 (by decide +kernel) rfl
theorem dX8_choose_35 : decode cX8_choose 35 = .ok (.iconst 0, 1) := dk_n (t := []) dk_g3 (by decide +kernel)
theorem dX8_choose_36 : decode cX8_choose 36 = .ok (.aload_n 0, 1) := dk_n (t := []) dk_g42 (by decide +kernel)
theorem dX8_choose_37 : decode cX8_choose 37 = .ok (.getfield 38, 3) := dk_u2 (y := 0) (z := 38) dk_g180 (by decide +kernel) rfl
theorem dX8_choose_40 : decode cX8_choose 40 = .ok (.iconst 0, 1) := dk_n (t := []) dk_g3 (by decide +kernel)
theorem dX8_choose_41 : decode cX8_choose 41 = .ok (.iconst 5, 1) := dk_n (t := []) dk_g8 (by decide +kernel)
theorem dX8_choose_42 : decode cX8_choose 42 = .ok (.invokestatic 108, 3) := dk_u2 (y := 0) (z := 108) dk_g184 (by decide +kernel) rfl
theorem dX8_choose_45 : decode cX8_choose 45 = .ok (.return_, 1) := dk_n (t := []) dk_g177 (by decide +kernel)
theorem dX8_choose_46 : decode cX8_choose 46 = .ok (.iconst 0, 1) := dk_n (t := []) dk_g3 (by decide +kernel)
theorem dX8_choose_47 : decode cX8_choose 47 = .ok (.istore 4, 2) := dk_u1 (y := 4) dk_g54 (by decide +kernel)
theorem dX8_choose_49 : decode cX8_choose 49 = .ok (.iload 4, 2) := dk_u1 (y := 4) dk_g21 (by decide +kernel)
theorem dX8_choose_51 : decode cX8_choose 51 = .ok (.bipush 8, 2) := dk_s1 (y := 8) dk_g16 (by decide +kernel) rfl
theorem dX8_choose_53 : decode cX8_choose 53 = .ok (.if_icmp .ge 92, 3) := dk_s2 (y := 0) (z := 92) dk_g162 (by decide +kernel) rfl
theorem dX8_choose_56 : decode cX8_choose 56 = .ok (.aload_n 0, 1) := dk_n (t := []) dk_g42 (by decide +kernel)
theorem dX8_choose_57 : decode cX8_choose 57 = .ok (.iload_n 1, 1) := dk_n (t := []) dk_g27 (by decide +kernel)
theorem dX8_choose_58 : decode cX8_choose 58 = .ok (.iload_n 3, 1) := dk_n (t := []) dk_g29 (by decide +kernel)
theorem dX8_choose_59 : decode cX8_choose 59 = .ok (.iload 4, 2) := dk_u1 (y := 4) dk_g21 (by decide +kernel)
theorem dX8_choose_61 : decode cX8_choose 61 = .ok (.invokevirtual 163, 3) := dk_u2 (y := 0) (z := 163) dk_g182 (by decide +kernel) rfl
theorem dX8_choose_64 : decode cX8_choose 64 = .ok (.ifCond .ne 6, 3) := dk_s2 (y := 0) (z := 6) dk_g154 (by decide +kernel) rfl
theorem dX8_choose_67 : decode cX8_choose 67 = .ok (.goto 72, 3) := dk_s2 (y := 0) (z := 72) dk_g167 (by decide +kernel) rfl
theorem dX8_choose_70 : decode cX8_choose 70 = .ok (.aload_n 0, 1) := dk_n (t := []) dk_g42 (by decide +kernel)
theorem dX8_choose_71 : decode cX8_choose 71 = .ok (.iload_n 1, 1) := dk_n (t := []) dk_g27 (by decide +kernel)
theorem dX8_choose_72 : decode cX8_choose 72 = .ok (.iload_n 1, 1) := dk_n (t := []) dk_g27 (by decide +kernel)
theorem dX8_choose_73 : decode cX8_choose 73 = .ok (.iconst 1, 1) := dk_n (t := []) dk_g4 (by decide +kernel)
theorem dX8_choose_74 : decode cX8_choose 74 = .ok (.iadd, 1) := dk_n (t := []) dk_g96 (by decide +kernel)
theorem dX8_choose_75 : decode cX8_choose 75 = .ok (.invokevirtual 166, 3) := dk_u2 (y := 0) (z := 166) dk_g182 (by decide +kernel) rfl
theorem dX8_choose_78 : decode cX8_choose 78 = .ok (.aload_n 0, 1) := dk_n (t := []) dk_g42 (by decide +kernel)
theorem dX8_choose_79 : decode cX8_choose 79 = .ok (.iload_n 1, 1) := dk_n (t := []) dk_g27 (by decide +kernel)
theorem dX8_choose_80 : decode cX8_choose 80 = .ok (.iconst 1, 1) := dk_n (t := []) dk_g4 (by decide +kernel)
theorem dX8_choose_81 : decode cX8_choose 81 = .ok (.iadd, 1) := dk_n (t := []) dk_g96 (by decide +kernel)
theorem dX8_choose_82 : decode cX8_choose 82 = .ok (.iload_n 3, 1) := dk_n (t := []) dk_g29 (by decide +kernel)
theorem dX8_choose_83 : decode cX8_choose 83 = .ok (.iload 4, 2) := dk_u1 (y := 4) dk_g21 (by decide +kernel)
theorem dX8_choose_85 : decode cX8_choose 85 = .ok (.invokevirtual 170, 3) := dk_u2 (y := 0) (z := 170) dk_g182 (by decide +kernel) rfl
theorem dX8_choose_88 : decode cX8_choose 88 = .ok (.aload_n 0, 1) := dk_n (t := []) dk_g42 (by decide +kernel)
theorem dX8_choose_89 : decode cX8_choose 89 = .ok (.iload_n 1, 1) := dk_n (t := []) dk_g27 (by decide +kernel)
theorem dX8_choose_90 : decode cX8_choose 90 = .ok (.iconst 1, 1) := dk_n (t := []) dk_g4 (by decide +kernel)
theorem dX8_choose_91 : decode cX8_choose 91 = .ok (.iadd, 1) := dk_n (t := []) dk_g96 (by decide +kernel)
theorem dX8_choose_92 : decode cX8_choose 92 = .ok (.iload_n 2, 1) := dk_n (t := []) dk_g28 (by decide +kernel)
theorem dX8_choose_93 : decode cX8_choose 93 = .ok (.invokevirtual 144, 3) := dk_u2 (y := 0) (z := 144) dk_g182 (by decide +kernel) rfl
theorem dX8_choose_96 : decode cX8_choose 96 = .ok (.ifCond .ne 43, 3) := dk_s2 (y := 0) (z := 43) dk_g154 (by decide +kernel) rfl
theorem dX8_choose_99 : decode cX8_choose 99 = .ok (.aload_n 0, 1) := dk_n (t := []) dk_g42 (by decide +kernel)
theorem dX8_choose_100 : decode cX8_choose 100 = .ok (.getfield 186, 3) := dk_u2 (y := 0) (z := 186) dk_g180 (by decide +kernel) rfl
theorem dX8_choose_103 : decode cX8_choose 103 = .ok (.ifCond .le 20, 3) := dk_s2 (y := 0) (z := 20) dk_g158 (by decide +kernel) rfl
theorem dX8_choose_106 : decode cX8_choose 106 = .ok (.aload_n 0, 1) := dk_n (t := []) dk_g42 (by decide +kernel)
theorem dX8_choose_107 : decode cX8_choose 107 = .ok (.iload_n 1, 1) := dk_n (t := []) dk_g27 (by decide +kernel)
theorem dX8_choose_108 : decode cX8_choose 108 = .ok (.iconst 1, 1) := dk_n (t := []) dk_g4 (by decide +kernel)
theorem dX8_choose_109 : decode cX8_choose 109 = .ok (.iadd, 1) := dk_n (t := []) dk_g96 (by decide +kernel)
theorem dX8_choose_110 : decode cX8_choose 110 = .ok (.invokevirtual 180, 3) := dk_u2 (y := 0) (z := 180) dk_g182 (by decide +kernel) rfl
theorem dX8_choose_113 : decode cX8_choose 113 = .ok (.aload_n 0, 1) := dk_n (t := []) dk_g42 (by decide +kernel)
theorem dX8_choose_114 : decode cX8_choose 114 = .ok (.getfield 183, 3) := dk_u2 (y := 0) (z := 183) dk_g180 (by decide +kernel) rfl
theorem dX8_choose_117 : decode cX8_choose 117 = .ok (.if_icmp .lt 6, 3) := dk_s2 (y := 0) (z := 6) dk_g161 (by decide +kernel) rfl
theorem dX8_choose_120 : decode cX8_choose 120 = .ok (.goto 19, 3) := dk_s2 (y := 0) (z := 19) dk_g167 (by decide +kernel) rfl
theorem dX8_choose_123 : decode cX8_choose 123 = .ok (.aload_n 0, 1) := dk_n (t := []) dk_g42 (by decide +kernel)
theorem dX8_choose_124 : decode cX8_choose 124 = .ok (.getfield 35, 3) := dk_u2 (y := 0) (z := 35) dk_g180 (by decide +kernel) rfl
theorem dX8_choose_127 : decode cX8_choose 127 = .ok (.iload_n 3, 1) := dk_n (t := []) dk_g29 (by decide +kernel)
theorem dX8_choose_128 : decode cX8_choose 128 = .ok (.iload 4, 2) := dk_u1 (y := 4) dk_g21 (by decide +kernel)
theorem dX8_choose_130 : decode cX8_choose 130 = .ok (.iastore, 1) := dk_n (t := []) dk_g79 (by decide +kernel)
theorem dX8_choose_131 : decode cX8_choose 131 = .ok (.aload_n 0, 1) := dk_n (t := []) dk_g42 (by decide +kernel)
theorem dX8_choose_132 : decode cX8_choose 132 = .ok (.iload_n 1, 1) := dk_n (t := []) dk_g27 (by decide +kernel)
theorem dX8_choose_133 : decode cX8_choose 133 = .ok (.iconst 1, 1) := dk_n (t := []) dk_g4 (by decide +kernel)
theorem dX8_choose_134 : decode cX8_choose 134 = .ok (.iadd, 1) := dk_n (t := []) dk_g96 (by decide +kernel)
theorem dX8_choose_135 : decode cX8_choose 135 = .ok (.iload_n 2, 1) := dk_n (t := []) dk_g28 (by decide +kernel)
theorem dX8_choose_136 : decode cX8_choose 136 = .ok (.invokevirtual 189, 3) := dk_u2 (y := 0) (z := 189) dk_g182 (by decide +kernel) rfl
theorem dX8_choose_139 : decode cX8_choose 139 = .ok (.iinc 4 1, 3) := dk_ii (y := 4) (z := 1) dk_g132 (by decide +kernel) rfl
theorem dX8_choose_142 : decode cX8_choose 142 = .ok (.goto (-93), 3) := dk_s2 (y := 255) (z := 163) dk_g167 (by decide +kernel) rfl
theorem dX8_choose_145 : decode cX8_choose 145 = .ok (.return_, 1) := dk_n (t := []) dk_g177 (by decide +kernel)
theorem dX8_isChosen_0 : decode cX8_isChosen 0 = .ok (.aload_n 0, 1) := dk_n (t := []) dk_g42 (by decide +kernel)
theorem dX8_isChosen_1 : decode cX8_isChosen 1 = .ok (.iconst 0, 1) := dk_n (t := []) dk_g3 (by decide +kernel)
theorem dX8_isChosen_2 : decode cX8_isChosen 2 = .ok (.putfield 186, 3) := dk_u2 (y := 0) (z := 186) dk_g181 (by decide +kernel) rfl
theorem dX8_isChosen_5 : decode cX8_isChosen 5 = .ok (.aload_n 0, 1) := dk_n (t := []) dk_g42 (by decide +kernel)
theorem dX8_isChosen_6 : decode cX8_isChosen 6 = .ok (.invokevirtual 151, 3) := dk_u2 (y := 0) (z := 151) dk_g182 (by decide +kernel) rfl
theorem dX8_isChosen_9 : decode cX8_isChosen 9 = .ok (.istore_n 1, 1) := dk_n (t := []) dk_g60 (by decide +kernel)
theorem dX8_isChosen_10 : decode cX8_isChosen 10 = .ok (.aload_n 0, 1) := dk_n (t := []) dk_g42 (by decide +kernel)
theorem dX8_isChosen_11 : decode cX8_isChosen 11 = .ok (.getfield 45, 3) := dk_u2 (y := 0) (z := 45) dk_g180 (by decide +kernel) rfl
theorem dX8_isChosen_14 : decode cX8_isChosen 14 = .ok (.ifCond .eq 12, 3) := dk_s2 (y := 0) (z := 12) dk_g153 (by decide +kernel) rfl
theorem dX8_isChosen_17 : decode cX8_isChosen 17 = .ok (.aload_n 0, 1) := dk_n (t := []) dk_g42 (by decide +kernel)
theorem dX8_isChosen_18 : decode cX8_isChosen 18 = .ok (.iconst 1, 1) := dk_n (t := []) dk_g4 (by decide +kernel)
theorem dX8_isChosen_19 : decode cX8_isChosen 19 = .ok (.iload_n 1, 1) := dk_n (t := []) dk_g27 (by decide +kernel)
theorem dX8_isChosen_20 : decode cX8_isChosen 20 = .ok (.invokevirtual 154, 3) := dk_u2 (y := 0) (z := 154) dk_g182 (by decide +kernel) rfl
theorem dX8_isChosen_23 : decode cX8_isChosen 23 = .ok (.ifCond .eq 5, 3) := dk_s2 (y := 0) (z := 5) dk_g153 (by decide +kernel) rfl
theorem dX8_isChosen_26 : decode cX8_isChosen 26 = .ok (.iconst 0, 1) := dk_n (t := []) dk_g3 (by decide +kernel)
theorem dX8_isChosen_27 : decode cX8_isChosen 27 = .ok (.ireturn, 1) := dk_n (t := []) dk_g172 (by decide +kernel)
theorem dX8_isChosen_28 : decode cX8_isChosen 28 = .ok (.aload_n 0, 1) := dk_n (t := []) dk_g42 (by decide +kernel)
theorem dX8_isChosen_29 : decode cX8_isChosen 29 = .ok (.iconst 1, 1) := dk_n (t := []) dk_g4 (by decide +kernel)
theorem dX8_isChosen_30 : decode cX8_isChosen 30 = .ok (.iload_n 1, 1) := dk_n (t := []) dk_g27 (by decide +kernel)
theorem dX8_isChosen_31 : decode cX8_isChosen 31 = .ok (.invokevirtual 189, 3) := dk_u2 (y := 0) (z := 189) dk_g182 (by decide +kernel) rfl
theorem dX8_isChosen_34 : decode cX8_isChosen 34 = .ok (.aload_n 0, 1) := dk_n (t := []) dk_g42 (by decide +kernel)
theorem dX8_isChosen_35 : decode cX8_isChosen 35 = .ok (.getfield 186, 3) := dk_u2 (y := 0) (z := 186) dk_g180 (by decide +kernel) rfl
theorem dX8_isChosen_38 : decode cX8_isChosen 38 = .ok (.ifCond .le 7, 3) := dk_s2 (y := 0) (z := 7) dk_g158 (by decide +kernel) rfl
theorem dX8_isChosen_41 : decode cX8_isChosen 41 = .ok (.iconst 1, 1) := dk_n (t := []) dk_g4 (by decide +kernel)
theorem dX8_isChosen_42 : decode cX8_isChosen 42 = .ok (.goto 4, 3) := dk_s2 (y := 0) (z := 4) dk_g167 (by decide +kernel) rfl
theorem dX8_isChosen_45 : decode cX8_isChosen 45 = .ok (.iconst 0, 1) := dk_n (t := []) dk_g3 (by decide +kernel)
theorem dX8_isChosen_46 : decode cX8_isChosen 46 = .ok (.ireturn, 1) := dk_n (t := []) dk_g172 (by decide +kernel)
theorem dX8_countFrom_0 : decode cX8_countFrom 0 = .ok (.iload_n 1, 1) := dk_n (t := []) dk_g27 (by decide +kernel)
theorem dX8_countFrom_1 : decode cX8_countFrom 1 = .ok (.iconst 1, 1) := dk_n (t := []) dk_g4 (by decide +kernel)
theorem dX8_countFrom_2 : decode cX8_countFrom 2 = .ok (.isub, 1) := dk_n (t := []) dk_g100 (by decide +kernel)
theorem dX8_countFrom_3 : decode cX8_countFrom 3 = .ok (.istore 4, 2) := dk_u1 (y := 4) dk_g54 (by decide +kernel)
theorem dX8_countFrom_5 : decode cX8_countFrom 5 = .ok (.iload 4, 2) := dk_u1 (y := 4) dk_g21 (by decide +kernel)
theorem dX8_countFrom_7 : decode cX8_countFrom 7 = .ok (.aload_n 0, 1) := dk_n (t := []) dk_g42 (by decide +kernel)
theorem dX8_countFrom_8 : decode cX8_countFrom 8 = .ok (.getfield 45, 3) := dk_u2 (y := 0) (z := 45) dk_g180 (by decide +kernel) rfl
theorem dX8_countFrom_11 : decode cX8_countFrom 11 = .ok (.if_icmp .ne 7, 3) := dk_s2 (y := 0) (z := 7) dk_g160 (by decide +kernel) rfl
theorem dX8_countFrom_14 : decode cX8_countFrom 14 = .ok (.iload_n 3, 1) := dk_n (t := []) dk_g29 (by decide +kernel)
theorem dX8_countFrom_15 : decode cX8_countFrom 15 = .ok (.iconst 1, 1) := dk_n (t := []) dk_g4 (by decide +kernel)
theorem dX8_countFrom_16 : decode cX8_countFrom 16 = .ok (.iadd, 1) := dk_n (t := []) dk_g96 (by decide +kernel)
theorem dX8_countFrom_17 : decode cX8_countFrom 17 = .ok (.ireturn, 1) := dk_n (t := []) dk_g172 (by decide +kernel)
theorem dX8_countFrom_18 : decode cX8_countFrom 18 = .ok (.iload_n 3, 1) := dk_n (t := []) dk_g29 (by decide +kernel)
theorem dX8_countFrom_19 : decode cX8_countFrom 19 = .ok (.istore 5, 2) := dk_u1 (y := 5) dk_g54 (by decide +kernel)
theorem dX8_countFrom_21 : decode cX8_countFrom 21 = .ok (.iconst 0, 1) := dk_n (t := []) dk_g3 (by decide +kernel)
theorem dX8_countFrom_22 : decode cX8_countFrom 22 = .ok (.istore 6, 2) := dk_u1 (y := 6) dk_g54 (by decide +kernel)
theorem dX8_countFrom_24 : decode cX8_countFrom 24 = .ok (.iload 6, 2) := dk_u1 (y := 6) dk_g21 (by decide +kernel)
theorem dX8_countFrom_26 : decode cX8_countFrom 26 = .ok (.bipush 8, 2) := dk_s1 (y := 8) dk_g16 (by decide +kernel) rfl
theorem dX8_countFrom_28 : decode cX8_countFrom 28 = .ok (.if_icmp .ge 74, 3) := dk_s2 (y := 0) (z := 74) dk_g162 (by decide +kernel) rfl
theorem dX8_countFrom_31 : decode cX8_countFrom 31 = .ok (.iload 5, 2) := dk_u1 (y := 5) dk_g21 (by decide +kernel)
theorem dX8_countFrom_33 : decode cX8_countFrom 33 = .ok (.sipush 500, 3) := dk_s2 (y := 1) (z := 244) dk_g17 (by decide +kernel) rfl
theorem dX8_countFrom_36 : decode cX8_countFrom 36 = .ok (.if_icmp .ge 66, 3) := dk_s2 (y := 0) (z := 66) dk_g162 (by decide +kernel) rfl
theorem dX8_countFrom_39 : decode cX8_countFrom 39 = .ok (.aload_n 0, 1) := dk_n (t := []) dk_g42 (by decide +kernel)
theorem dX8_countFrom_40 : decode cX8_countFrom 40 = .ok (.iload_n 1, 1) := dk_n (t := []) dk_g27 (by decide +kernel)
theorem dX8_countFrom_41 : decode cX8_countFrom 41 = .ok (.iload 4, 2) := dk_u1 (y := 4) dk_g21 (by decide +kernel)
theorem dX8_countFrom_43 : decode cX8_countFrom 43 = .ok (.iload 6, 2) := dk_u1 (y := 6) dk_g21 (by decide +kernel)
theorem dX8_countFrom_45 : decode cX8_countFrom 45 = .ok (.invokevirtual 163, 3) := dk_u2 (y := 0) (z := 163) dk_g182 (by decide +kernel) rfl
theorem dX8_countFrom_48 : decode cX8_countFrom 48 = .ok (.ifCond .ne 6, 3) := dk_s2 (y := 0) (z := 6) dk_g154 (by decide +kernel) rfl
theorem dX8_countFrom_51 : decode cX8_countFrom 51 = .ok (.goto 45, 3) := dk_s2 (y := 0) (z := 45) dk_g167 (by decide +kernel) rfl
theorem dX8_countFrom_54 : decode cX8_countFrom 54 = .ok (.aload_n 0, 1) := dk_n (t := []) dk_g42 (by decide +kernel)
theorem dX8_countFrom_55 : decode cX8_countFrom 55 = .ok (.iload_n 1, 1) := dk_n (t := []) dk_g27 (by decide +kernel)
theorem dX8_countFrom_56 : decode cX8_countFrom 56 = .ok (.iload_n 1, 1) := dk_n (t := []) dk_g27 (by decide +kernel)
theorem dX8_countFrom_57 : decode cX8_countFrom 57 = .ok (.iconst 1, 1) := dk_n (t := []) dk_g4 (by decide +kernel)
theorem dX8_countFrom_58 : decode cX8_countFrom 58 = .ok (.iadd, 1) := dk_n (t := []) dk_g96 (by decide +kernel)
theorem dX8_countFrom_59 : decode cX8_countFrom 59 = .ok (.invokevirtual 166, 3) := dk_u2 (y := 0) (z := 166) dk_g182 (by decide +kernel) rfl
theorem dX8_countFrom_62 : decode cX8_countFrom 62 = .ok (.aload_n 0, 1) := dk_n (t := []) dk_g42 (by decide +kernel)
theorem dX8_countFrom_63 : decode cX8_countFrom 63 = .ok (.iload_n 1, 1) := dk_n (t := []) dk_g27 (by decide +kernel)
theorem dX8_countFrom_64 : decode cX8_countFrom 64 = .ok (.iconst 1, 1) := dk_n (t := []) dk_g4 (by decide +kernel)
theorem dX8_countFrom_65 : decode cX8_countFrom 65 = .ok (.iadd, 1) := dk_n (t := []) dk_g96 (by decide +kernel)
theorem dX8_countFrom_66 : decode cX8_countFrom 66 = .ok (.iload 4, 2) := dk_u1 (y := 4) dk_g21 (by decide +kernel)
theorem dX8_countFrom_68 : decode cX8_countFrom 68 = .ok (.iload 6, 2) := dk_u1 (y := 6) dk_g21 (by decide +kernel)
theorem dX8_countFrom_70 : decode cX8_countFrom 70 = .ok (.invokevirtual 170, 3) := dk_u2 (y := 0) (z := 170) dk_g182 (by decide +kernel) rfl
theorem dX8_countFrom_73 : decode cX8_countFrom 73 = .ok (.aload_n 0, 1) := dk_n (t := []) dk_g42 (by decide +kernel)
theorem dX8_countFrom_74 : decode cX8_countFrom 74 = .ok (.iload_n 1, 1) := dk_n (t := []) dk_g27 (by decide +kernel)
theorem dX8_countFrom_75 : decode cX8_countFrom 75 = .ok (.iconst 1, 1) := dk_n (t := []) dk_g4 (by decide +kernel)
theorem dX8_countFrom_76 : decode cX8_countFrom 76 = .ok (.iadd, 1) := dk_n (t := []) dk_g96 (by decide +kernel)
theorem dX8_countFrom_77 : decode cX8_countFrom 77 = .ok (.iload_n 2, 1) := dk_n (t := []) dk_g28 (by decide +kernel)
theorem dX8_countFrom_78 : decode cX8_countFrom 78 = .ok (.invokevirtual 144, 3) := dk_u2 (y := 0) (z := 144) dk_g182 (by decide +kernel) rfl
theorem dX8_countFrom_81 : decode cX8_countFrom 81 = .ok (.ifCond .ne 15, 3) := dk_s2 (y := 0) (z := 15) dk_g154 (by decide +kernel) rfl
theorem dX8_countFrom_84 : decode cX8_countFrom 84 = .ok (.aload_n 0, 1) := dk_n (t := []) dk_g42 (by decide +kernel)
theorem dX8_countFrom_85 : decode cX8_countFrom 85 = .ok (.iload_n 1, 1) := dk_n (t := []) dk_g27 (by decide +kernel)
theorem dX8_countFrom_86 : decode cX8_countFrom 86 = .ok (.iconst 1, 1) := dk_n (t := []) dk_g4 (by decide +kernel)
theorem dX8_countFrom_87 : decode cX8_countFrom 87 = .ok (.iadd, 1) := dk_n (t := []) dk_g96 (by decide +kernel)
theorem dX8_countFrom_88 : decode cX8_countFrom 88 = .ok (.iload_n 2, 1) := dk_n (t := []) dk_g28 (by decide +kernel)
theorem dX8_countFrom_89 : decode cX8_countFrom 89 = .ok (.iload 5, 2) := dk_u1 (y := 5) dk_g21 (by decide +kernel)
theorem dX8_countFrom_91 : decode cX8_countFrom 91 = .ok (.invokevirtual 192, 3) := dk_u2 (y := 0) (z := 192) dk_g182 (by decide +kernel) rfl
theorem dX8_countFrom_94 : decode cX8_countFrom 94 = .ok (.istore 5, 2) := dk_u1 (y := 5) dk_g54 (by decide +kernel)
theorem dX8_countFrom_96 : decode cX8_countFrom 96 = .ok (.iinc 6 1, 3) := dk_ii (y := 6) (z := 1) dk_g132 (by decide +kernel) rfl
theorem dX8_countFrom_99 : decode cX8_countFrom 99 = .ok (.goto (-75), 3) := dk_s2 (y := 255) (z := 181) dk_g167 (by decide +kernel) rfl
theorem dX8_countFrom_102 : decode cX8_countFrom 102 = .ok (.iload 5, 2) := dk_u1 (y := 5) dk_g21 (by decide +kernel)
theorem dX8_countFrom_104 : decode cX8_countFrom 104 = .ok (.ireturn, 1) := dk_n (t := []) dk_g172 (by decide +kernel)
theorem dX8_commit_0 : decode cX8_commit 0 = .ok (.aload_n 0, 1) := dk_n (t := []) dk_g42 (by decide +kernel)
theorem dX8_commit_1 : decode cX8_commit 1 = .ok (.iconst 0, 1) := dk_n (t := []) dk_g3 (by decide +kernel)
theorem dX8_commit_2 : decode cX8_commit 2 = .ok (.putfield 41, 3) := dk_u2 (y := 0) (z := 41) dk_g181 (by decide +kernel) rfl
theorem dX8_commit_5 : decode cX8_commit 5 = .ok (.aload_n 0, 1) := dk_n (t := []) dk_g42 (by decide +kernel)
theorem dX8_commit_6 : decode cX8_commit 6 = .ok (.invokevirtual 196, 3) := dk_u2 (y := 0) (z := 196) dk_g182 (by decide +kernel) rfl
theorem dX8_commit_9 : decode cX8_commit 9 = .ok (.ifCond .ne 15, 3) := dk_s2 (y := 0) (z := 15) dk_g154 (by decide +kernel) rfl
theorem dX8_commit_12 : decode cX8_commit 12 = .ok (.aload_n 0, 1) := dk_n (t := []) dk_g42 (by decide +kernel)
theorem dX8_commit_13 : decode cX8_commit 13 = .ok (.getfield 23, 3) := dk_u2 (y := 0) (z := 23) dk_g180 (by decide +kernel) rfl
theorem dX8_commit_16 : decode cX8_commit 16 = .ok (.invokevirtual 52, 3) := dk_u2 (y := 0) (z := 52) dk_g182 (by decide +kernel) rfl
theorem dX8_commit_19 : decode cX8_commit 19 = .ok (.bipush 12, 2) := dk_s1 (y := 12) dk_g16 (by decide +kernel) rfl
theorem dX8_commit_21 : decode cX8_commit 21 = .ok (.if_icmp .ne 9, 3) := dk_s2 (y := 0) (z := 9) dk_g160 (by decide +kernel) rfl
theorem dX8_commit_24 : decode cX8_commit 24 = .ok (.aload_n 0, 1) := dk_n (t := []) dk_g42 (by decide +kernel)
theorem dX8_commit_25 : decode cX8_commit 25 = .ok (.iconst 1, 1) := dk_n (t := []) dk_g4 (by decide +kernel)
theorem dX8_commit_26 : decode cX8_commit 26 = .ok (.invokevirtual 82, 3) := dk_u2 (y := 0) (z := 82) dk_g182 (by decide +kernel) rfl
theorem dX8_commit_29 : decode cX8_commit 29 = .ok (.ireturn, 1) := dk_n (t := []) dk_g172 (by decide +kernel)
theorem dX8_commit_30 : decode cX8_commit 30 = .ok (.iconst 5, 1) := dk_n (t := []) dk_g8 (by decide +kernel)
theorem dX8_commit_31 : decode cX8_commit 31 = .ok (.newarray .int, 2) := by decide +kernel
theorem dX8_commit_33 : decode cX8_commit 33 = .ok (.astore_n 1, 1) := dk_n (t := []) dk_g76 (by decide +kernel)
theorem dX8_commit_34 : decode cX8_commit 34 = .ok (.aload_n 0, 1) := dk_n (t := []) dk_g42 (by decide +kernel)
theorem dX8_commit_35 : decode cX8_commit 35 = .ok (.invokevirtual 174, 3) := dk_u2 (y := 0) (z := 174) dk_g182 (by decide +kernel) rfl
theorem dX8_commit_38 : decode cX8_commit 38 = .ok (.iconst 0, 1) := dk_n (t := []) dk_g3 (by decide +kernel)
theorem dX8_commit_39 : decode cX8_commit 39 = .ok (.istore_n 2, 1) := dk_n (t := []) dk_g61 (by decide +kernel)
theorem dX8_commit_40 : decode cX8_commit 40 = .ok (.iload_n 2, 1) := dk_n (t := []) dk_g28 (by decide +kernel)
theorem dX8_commit_41 : decode cX8_commit 41 = .ok (.iconst 5, 1) := dk_n (t := []) dk_g8 (by decide +kernel)
theorem dX8_commit_42 : decode cX8_commit 42 = .ok (.if_icmp .ge 40, 3) := dk_s2 (y := 0) (z := 40) dk_g162 (by decide +kernel) rfl
theorem dX8_commit_45 : decode cX8_commit 45 = .ok (.aload_n 1, 1) := dk_n (t := []) dk_g43 (by decide +kernel)
theorem dX8_commit_46 : decode cX8_commit 46 = .ok (.iload_n 2, 1) := dk_n (t := []) dk_g28 (by decide +kernel)
theorem dX8_commit_47 : decode cX8_commit 47 = .ok (.iload_n 2, 1) := dk_n (t := []) dk_g28 (by decide +kernel)
theorem dX8_commit_48 : decode cX8_commit 48 = .ok (.aload_n 0, 1) := dk_n (t := []) dk_g42 (by decide +kernel)
theorem dX8_commit_49 : decode cX8_commit 49 = .ok (.getfield 45, 3) := dk_u2 (y := 0) (z := 45) dk_g180 (by decide +kernel) rfl
theorem dX8_commit_52 : decode cX8_commit 52 = .ok (.if_icmp .ge 22, 3) := dk_s2 (y := 0) (z := 22) dk_g162 (by decide +kernel) rfl
theorem dX8_commit_55 : decode cX8_commit 55 = .ok (.aload_n 0, 1) := dk_n (t := []) dk_g42 (by decide +kernel)
theorem dX8_commit_56 : decode cX8_commit 56 = .ok (.iconst 0, 1) := dk_n (t := []) dk_g3 (by decide +kernel)
theorem dX8_commit_57 : decode cX8_commit 57 = .ok (.iload_n 2, 1) := dk_n (t := []) dk_g28 (by decide +kernel)
theorem dX8_commit_58 : decode cX8_commit 58 = .ok (.invokevirtual 157, 3) := dk_u2 (y := 0) (z := 157) dk_g182 (by decide +kernel) rfl
theorem dX8_commit_61 : decode cX8_commit 61 = .ok (.iconst 1, 1) := dk_n (t := []) dk_g4 (by decide +kernel)
theorem dX8_commit_62 : decode cX8_commit 62 = .ok (.if_icmp .ne 12, 3) := dk_s2 (y := 0) (z := 12) dk_g160 (by decide +kernel) rfl
theorem dX8_commit_65 : decode cX8_commit 65 = .ok (.aload_n 0, 1) := dk_n (t := []) dk_g42 (by decide +kernel)
theorem dX8_commit_66 : decode cX8_commit 66 = .ok (.iconst 0, 1) := dk_n (t := []) dk_g3 (by decide +kernel)
theorem dX8_commit_67 : decode cX8_commit 67 = .ok (.iload_n 2, 1) := dk_n (t := []) dk_g28 (by decide +kernel)
theorem dX8_commit_68 : decode cX8_commit 68 = .ok (.invokevirtual 177, 3) := dk_u2 (y := 0) (z := 177) dk_g182 (by decide +kernel) rfl
theorem dX8_commit_71 : decode cX8_commit 71 = .ok (.goto 4, 3) := dk_s2 (y := 0) (z := 4) dk_g167 (by decide +kernel) rfl
theorem dX8_commit_74 : decode cX8_commit 74 = .ok (.iconst (-1), 1) := dk_n (t := []) dk_g2 (by decide +kernel)
theorem dX8_commit_75 : decode cX8_commit 75 = .ok (.iastore, 1) := dk_n (t := []) dk_g79 (by decide +kernel)
theorem dX8_commit_76 : decode cX8_commit 76 = .ok (.iinc 2 1, 3) := dk_ii (y := 2) (z := 1) dk_g132 (by decide +kernel) rfl
theorem dX8_commit_79 : decode cX8_commit 79 = .ok (.goto (-39), 3) := dk_s2 (y := 255) (z := 217) dk_g167 (by decide +kernel) rfl
theorem dX8_commit_82 : decode cX8_commit 82 = .ok (.aload_n 0, 1) := dk_n (t := []) dk_g42 (by decide +kernel)
theorem dX8_commit_83 : decode cX8_commit 83 = .ok (.getfield 23, 3) := dk_u2 (y := 0) (z := 23) dk_g180 (by decide +kernel) rfl
theorem dX8_commit_86 : decode cX8_commit 86 = .ok (.aload_n 1, 1) := dk_n (t := []) dk_g43 (by decide +kernel)
theorem dX8_commit_87 : decode cX8_commit 87 = .ok (.invokevirtual 97, 3) := dk_u2 (y := 0) (z := 97) dk_g182 (by decide +kernel) rfl
theorem dX8_commit_90 : decode cX8_commit 90 = .ok (.pop, 1) := dk_n (t := []) dk_g87 (by decide +kernel)
theorem dX8_commit_91 : decode cX8_commit 91 = .ok (.aload_n 0, 1) := dk_n (t := []) dk_g42 (by decide +kernel)
theorem dX8_commit_92 : decode cX8_commit 92 = .ok (.getfield 23, 3) := dk_u2 (y := 0) (z := 23) dk_g180 (by decide +kernel) rfl
theorem dX8_commit_95 : decode cX8_commit 95 = .ok (.invokevirtual 52, 3) := dk_u2 (y := 0) (z := 52) dk_g182 (by decide +kernel) rfl
theorem dX8_commit_98 : decode cX8_commit 98 = .ok (.iconst 1, 1) := dk_n (t := []) dk_g4 (by decide +kernel)
theorem dX8_commit_99 : decode cX8_commit 99 = .ok (.isub, 1) := dk_n (t := []) dk_g100 (by decide +kernel)
theorem dX8_commit_100 : decode cX8_commit 100 = .ok (.ireturn, 1) := dk_n (t := []) dk_g172 (by decide +kernel)
theorem dX8_drifts_0 : decode cX8_drifts 0 = .ok (.aload_n 0, 1) := dk_n (t := []) dk_g42 (by decide +kernel)
theorem dX8_drifts_1 : decode cX8_drifts 1 = .ok (.getfield 26, 3) := dk_u2 (y := 0) (z := 26) dk_g180 (by decide +kernel) rfl
theorem dX8_drifts_4 : decode cX8_drifts 4 = .ok (.iload_n 1, 1) := dk_n (t := []) dk_g27 (by decide +kernel)
theorem dX8_drifts_5 : decode cX8_drifts 5 = .ok (.iaload, 1) := dk_n (t := []) dk_g46 (by decide +kernel)
theorem dX8_drifts_6 : decode cX8_drifts 6 = .ok (.iconst (-1), 1) := dk_n (t := []) dk_g2 (by decide +kernel)
theorem dX8_drifts_7 : decode cX8_drifts 7 = .ok (.if_icmp .eq 38, 3) := dk_s2 (y := 0) (z := 38) dk_g159 (by decide +kernel) rfl
theorem dX8_drifts_10 : decode cX8_drifts 10 = .ok (.aload_n 0, 1) := dk_n (t := []) dk_g42 (by decide +kernel)
theorem dX8_drifts_11 : decode cX8_drifts 11 = .ok (.getfield 29, 3) := dk_u2 (y := 0) (z := 29) dk_g180 (by decide +kernel) rfl
theorem dX8_drifts_14 : decode cX8_drifts 14 = .ok (.iload_n 1, 1) := dk_n (t := []) dk_g27 (by decide +kernel)
theorem dX8_drifts_15 : decode cX8_drifts 15 = .ok (.iconst 5, 1) := dk_n (t := []) dk_g8 (by decide +kernel)
theorem dX8_drifts_16 : decode cX8_drifts 16 = .ok (.imul, 1) := dk_n (t := []) dk_g104 (by decide +kernel)
theorem dX8_drifts_17 : decode cX8_drifts 17 = .ok (.iload_n 2, 1) := dk_n (t := []) dk_g28 (by decide +kernel)
theorem dX8_drifts_18 : decode cX8_drifts 18 = .ok (.iadd, 1) := dk_n (t := []) dk_g96 (by decide +kernel)
theorem dX8_drifts_19 : decode cX8_drifts 19 = .ok (.iaload, 1) := dk_n (t := []) dk_g46 (by decide +kernel)
theorem dX8_drifts_20 : decode cX8_drifts 20 = .ok (.aload_n 0, 1) := dk_n (t := []) dk_g42 (by decide +kernel)
theorem dX8_drifts_21 : decode cX8_drifts 21 = .ok (.getfield 23, 3) := dk_u2 (y := 0) (z := 23) dk_g180 (by decide +kernel) rfl
theorem dX8_drifts_24 : decode cX8_drifts 24 = .ok (.aload_n 0, 1) := dk_n (t := []) dk_g42 (by decide +kernel)
theorem dX8_drifts_25 : decode cX8_drifts 25 = .ok (.getfield 26, 3) := dk_u2 (y := 0) (z := 26) dk_g180 (by decide +kernel) rfl
theorem dX8_drifts_28 : decode cX8_drifts 28 = .ok (.iload_n 1, 1) := dk_n (t := []) dk_g27 (by decide +kernel)
theorem dX8_drifts_29 : decode cX8_drifts 29 = .ok (.iaload, 1) := dk_n (t := []) dk_g46 (by decide +kernel)
theorem dX8_drifts_30 : decode cX8_drifts 30 = .ok (.invokevirtual 71, 3) := dk_u2 (y := 0) (z := 71) dk_g182 (by decide +kernel) rfl
theorem dX8_drifts_33 : decode cX8_drifts 33 = .ok (.checkcast 200, 3) := dk_u2 (y := 0) (z := 200) dk_g192 (by decide +kernel) rfl
theorem dX8_drifts_36 : decode cX8_drifts 36 = .ok (.iload_n 2, 1) := dk_n (t := []) dk_g28 (by decide +kernel)
theorem dX8_drifts_37 : decode cX8_drifts 37 = .ok (.iaload, 1) := dk_n (t := []) dk_g46 (by decide +kernel)
theorem dX8_drifts_38 : decode cX8_drifts 38 = .ok (.if_icmp .eq 7, 3) := dk_s2 (y := 0) (z := 7) dk_g159 (by decide +kernel) rfl
theorem dX8_drifts_41 : decode cX8_drifts 41 = .ok (.iconst 1, 1) := dk_n (t := []) dk_g4 (by decide +kernel)
theorem dX8_drifts_42 : decode cX8_drifts 42 = .ok (.goto 4, 3) := dk_s2 (y := 0) (z := 4) dk_g167 (by decide +kernel) rfl
theorem dX8_drifts_45 : decode cX8_drifts 45 = .ok (.iconst 0, 1) := dk_n (t := []) dk_g3 (by decide +kernel)
theorem dX8_drifts_46 : decode cX8_drifts 46 = .ok (.ireturn, 1) := dk_n (t := []) dk_g172 (by decide +kernel)
theorem dX8_drifting_0 : decode cX8_drifting 0 = .ok (.iconst 0, 1) := dk_n (t := []) dk_g3 (by decide +kernel)
theorem dX8_drifting_1 : decode cX8_drifting 1 = .ok (.istore_n 2, 1) := dk_n (t := []) dk_g61 (by decide +kernel)
theorem dX8_drifting_2 : decode cX8_drifting 2 = .ok (.iconst 0, 1) := dk_n (t := []) dk_g3 (by decide +kernel)
theorem dX8_drifting_3 : decode cX8_drifting 3 = .ok (.istore_n 3, 1) := dk_n (t := []) dk_g62 (by decide +kernel)
theorem dX8_drifting_4 : decode cX8_drifting 4 = .ok (.iload_n 3, 1) := dk_n (t := []) dk_g29 (by decide +kernel)
theorem dX8_drifting_5 : decode cX8_drifting 5 = .ok (.aload_n 0, 1) := dk_n (t := []) dk_g42 (by decide +kernel)
theorem dX8_drifting_6 : decode cX8_drifting 6 = .ok (.getfield 45, 3) := dk_u2 (y := 0) (z := 45) dk_g180 (by decide +kernel) rfl
theorem dX8_drifting_9 : decode cX8_drifting 9 = .ok (.if_icmp .ge 28, 3) := dk_s2 (y := 0) (z := 28) dk_g162 (by decide +kernel) rfl
theorem dX8_drifting_12 : decode cX8_drifting 12 = .ok (.iload_n 2, 1) := dk_n (t := []) dk_g28 (by decide +kernel)
theorem dX8_drifting_13 : decode cX8_drifting 13 = .ok (.aload_n 0, 1) := dk_n (t := []) dk_g42 (by decide +kernel)
theorem dX8_drifting_14 : decode cX8_drifting 14 = .ok (.iload_n 1, 1) := dk_n (t := []) dk_g27 (by decide +kernel)
theorem dX8_drifting_15 : decode cX8_drifting 15 = .ok (.iload_n 3, 1) := dk_n (t := []) dk_g29 (by decide +kernel)
theorem dX8_drifting_16 : decode cX8_drifting 16 = .ok (.invokevirtual 201, 3) := dk_u2 (y := 0) (z := 201) dk_g182 (by decide +kernel) rfl
theorem dX8_drifting_19 : decode cX8_drifting 19 = .ok (.ifCond .eq 9, 3) := dk_s2 (y := 0) (z := 9) dk_g153 (by decide +kernel) rfl
theorem dX8_drifting_22 : decode cX8_drifting 22 = .ok (.iconst 1, 1) := dk_n (t := []) dk_g4 (by decide +kernel)
theorem dX8_drifting_23 : decode cX8_drifting 23 = .ok (.iload_n 3, 1) := dk_n (t := []) dk_g29 (by decide +kernel)
theorem dX8_drifting_24 : decode cX8_drifting 24 = .ok (.ishl, 1) := dk_n (t := []) dk_g120 (by decide +kernel)
theorem dX8_drifting_25 : decode cX8_drifting 25 = .ok (.goto 4, 3) := dk_s2 (y := 0) (z := 4) dk_g167 (by decide +kernel) rfl
theorem dX8_drifting_28 : decode cX8_drifting 28 = .ok (.iconst 0, 1) := dk_n (t := []) dk_g3 (by decide +kernel)
theorem dX8_drifting_29 : decode cX8_drifting 29 = .ok (.ior, 1) := dk_n (t := []) dk_g128 (by decide +kernel)
theorem dX8_drifting_30 : decode cX8_drifting 30 = .ok (.istore_n 2, 1) := dk_n (t := []) dk_g61 (by decide +kernel)
theorem dX8_drifting_31 : decode cX8_drifting 31 = .ok (.iinc 3 1, 3) := dk_ii (y := 3) (z := 1) dk_g132 (by decide +kernel) rfl
theorem dX8_drifting_34 : decode cX8_drifting 34 = .ok (.goto (-30), 3) := dk_s2 (y := 255) (z := 226) dk_g167 (by decide +kernel) rfl
theorem dX8_drifting_37 : decode cX8_drifting 37 = .ok (.iload_n 2, 1) := dk_n (t := []) dk_g28 (by decide +kernel)
theorem dX8_drifting_38 : decode cX8_drifting 38 = .ok (.ireturn, 1) := dk_n (t := []) dk_g172 (by decide +kernel)
theorem dX8_wave_0 : decode cX8_wave 0 = .ok (.aload_n 0, 1) := dk_n (t := []) dk_g42 (by decide +kernel)
theorem dX8_wave_1 : decode cX8_wave 1 = .ok (.iconst 0, 1) := dk_n (t := []) dk_g3 (by decide +kernel)
theorem dX8_wave_2 : decode cX8_wave 2 = .ok (.putfield 41, 3) := dk_u2 (y := 0) (z := 41) dk_g181 (by decide +kernel) rfl
theorem dX8_wave_5 : decode cX8_wave 5 = .ok (.iload_n 1, 1) := dk_n (t := []) dk_g27 (by decide +kernel)
theorem dX8_wave_6 : decode cX8_wave 6 = .ok (.iconst 0, 1) := dk_n (t := []) dk_g3 (by decide +kernel)
theorem dX8_wave_7 : decode cX8_wave 7 = .ok (.aload_n 0, 1) := dk_n (t := []) dk_g42 (by decide +kernel)
theorem dX8_wave_8 : decode cX8_wave 8 = .ok (.getfield 23, 3) := dk_u2 (y := 0) (z := 23) dk_g180 (by decide +kernel) rfl
theorem dX8_wave_11 : decode cX8_wave 11 = .ok (.invokevirtual 52, 3) := dk_u2 (y := 0) (z := 52) dk_g182 (by decide +kernel) rfl
theorem dX8_wave_14 : decode cX8_wave 14 = .ok (.iconst 1, 1) := dk_n (t := []) dk_g4 (by decide +kernel)
theorem dX8_wave_15 : decode cX8_wave 15 = .ok (.isub, 1) := dk_n (t := []) dk_g100 (by decide +kernel)
theorem dX8_wave_16 : decode cX8_wave 16 = .ok (.invokestatic 48, 3) := dk_u2 (y := 0) (z := 48) dk_g184 (by decide +kernel) rfl
theorem dX8_wave_19 : decode cX8_wave 19 = .ok (.ifCond .ne 9, 3) := dk_s2 (y := 0) (z := 9) dk_g154 (by decide +kernel) rfl
theorem dX8_wave_22 : decode cX8_wave 22 = .ok (.aload_n 0, 1) := dk_n (t := []) dk_g42 (by decide +kernel)
theorem dX8_wave_23 : decode cX8_wave 23 = .ok (.iconst 1, 1) := dk_n (t := []) dk_g4 (by decide +kernel)
theorem dX8_wave_24 : decode cX8_wave 24 = .ok (.invokevirtual 82, 3) := dk_u2 (y := 0) (z := 82) dk_g182 (by decide +kernel) rfl
theorem dX8_wave_27 : decode cX8_wave 27 = .ok (.ireturn, 1) := dk_n (t := []) dk_g172 (by decide +kernel)
theorem dX8_wave_28 : decode cX8_wave 28 = .ok (.iload_n 2, 1) := dk_n (t := []) dk_g28 (by decide +kernel)
theorem dX8_wave_29 : decode cX8_wave 29 = .ok (.iconst 0, 1) := dk_n (t := []) dk_g3 (by decide +kernel)
theorem dX8_wave_30 : decode cX8_wave 30 = .ok (.bipush 63, 2) := dk_s1 (y := 63) dk_g16 (by decide +kernel) rfl
theorem dX8_wave_32 : decode cX8_wave 32 = .ok (.invokestatic 48, 3) := dk_u2 (y := 0) (z := 48) dk_g184 (by decide +kernel) rfl
theorem dX8_wave_35 : decode cX8_wave 35 = .ok (.ifCond .ne 9, 3) := dk_s2 (y := 0) (z := 9) dk_g154 (by decide +kernel) rfl
theorem dX8_wave_38 : decode cX8_wave 38 = .ok (.aload_n 0, 1) := dk_n (t := []) dk_g42 (by decide +kernel)
theorem dX8_wave_39 : decode cX8_wave 39 = .ok (.iconst 2, 1) := dk_n (t := []) dk_g5 (by decide +kernel)
theorem dX8_wave_40 : decode cX8_wave 40 = .ok (.invokevirtual 82, 3) := dk_u2 (y := 0) (z := 82) dk_g182 (by decide +kernel) rfl
theorem dX8_wave_43 : decode cX8_wave 43 = .ok (.ireturn, 1) := dk_n (t := []) dk_g172 (by decide +kernel)
theorem dX8_wave_44 : decode cX8_wave 44 = .ok (.iconst 0, 1) := dk_n (t := []) dk_g3 (by decide +kernel)
theorem dX8_wave_45 : decode cX8_wave 45 = .ok (.istore_n 3, 1) := dk_n (t := []) dk_g62 (by decide +kernel)
theorem dX8_wave_46 : decode cX8_wave 46 = .ok (.iconst 0, 1) := dk_n (t := []) dk_g3 (by decide +kernel)
theorem dX8_wave_47 : decode cX8_wave 47 = .ok (.istore 4, 2) := dk_u1 (y := 4) dk_g54 (by decide +kernel)
theorem dX8_wave_49 : decode cX8_wave 49 = .ok (.iload 4, 2) := dk_u1 (y := 4) dk_g21 (by decide +kernel)
theorem dX8_wave_51 : decode cX8_wave 51 = .ok (.bipush 6, 2) := dk_s1 (y := 6) dk_g16 (by decide +kernel) rfl
theorem dX8_wave_53 : decode cX8_wave 53 = .ok (.if_icmp .ge 98, 3) := dk_s2 (y := 0) (z := 98) dk_g162 (by decide +kernel) rfl
theorem dX8_wave_56 : decode cX8_wave 56 = .ok (.iload_n 2, 1) := dk_n (t := []) dk_g28 (by decide +kernel)
theorem dX8_wave_57 : decode cX8_wave 57 = .ok (.iload 4, 2) := dk_u1 (y := 4) dk_g21 (by decide +kernel)
theorem dX8_wave_59 : decode cX8_wave 59 = .ok (.ishr, 1) := dk_n (t := []) dk_g122 (by decide +kernel)
theorem dX8_wave_60 : decode cX8_wave 60 = .ok (.iconst 1, 1) := dk_n (t := []) dk_g4 (by decide +kernel)
theorem dX8_wave_61 : decode cX8_wave 61 = .ok (.iand, 1) := dk_n (t := []) dk_g126 (by decide +kernel)
theorem dX8_wave_62 : decode cX8_wave 62 = .ok (.ifCond .ne 6, 3) := dk_s2 (y := 0) (z := 6) dk_g154 (by decide +kernel) rfl
theorem dX8_wave_65 : decode cX8_wave 65 = .ok (.goto 80, 3) := dk_s2 (y := 0) (z := 80) dk_g167 (by decide +kernel) rfl
theorem dX8_wave_68 : decode cX8_wave 68 = .ok (.iload_n 3, 1) := dk_n (t := []) dk_g29 (by decide +kernel)
theorem dX8_wave_69 : decode cX8_wave 69 = .ok (.aload_n 0, 1) := dk_n (t := []) dk_g42 (by decide +kernel)
theorem dX8_wave_70 : decode cX8_wave 70 = .ok (.getfield 26, 3) := dk_u2 (y := 0) (z := 26) dk_g180 (by decide +kernel) rfl
theorem dX8_wave_73 : decode cX8_wave 73 = .ok (.iload 4, 2) := dk_u1 (y := 4) dk_g21 (by decide +kernel)
theorem dX8_wave_75 : decode cX8_wave 75 = .ok (.iaload, 1) := dk_n (t := []) dk_g46 (by decide +kernel)
theorem dX8_wave_76 : decode cX8_wave 76 = .ok (.iload_n 1, 1) := dk_n (t := []) dk_g27 (by decide +kernel)
theorem dX8_wave_77 : decode cX8_wave 77 = .ok (.if_icmp .ne 12, 3) := dk_s2 (y := 0) (z := 12) dk_g160 (by decide +kernel) rfl
theorem dX8_wave_80 : decode cX8_wave 80 = .ok (.aload_n 0, 1) := dk_n (t := []) dk_g42 (by decide +kernel)
theorem dX8_wave_81 : decode cX8_wave 81 = .ok (.iload 4, 2) := dk_u1 (y := 4) dk_g21 (by decide +kernel)
theorem dX8_wave_83 : decode cX8_wave 83 = .ok (.invokevirtual 204, 3) := dk_u2 (y := 0) (z := 204) dk_g182 (by decide +kernel) rfl
theorem dX8_wave_86 : decode cX8_wave 86 = .ok (.ifCond .eq 7, 3) := dk_s2 (y := 0) (z := 7) dk_g153 (by decide +kernel) rfl
theorem dX8_wave_89 : decode cX8_wave 89 = .ok (.iconst 1, 1) := dk_n (t := []) dk_g4 (by decide +kernel)
theorem dX8_wave_90 : decode cX8_wave 90 = .ok (.goto 4, 3) := dk_s2 (y := 0) (z := 4) dk_g167 (by decide +kernel) rfl
theorem dX8_wave_93 : decode cX8_wave 93 = .ok (.iconst 0, 1) := dk_n (t := []) dk_g3 (by decide +kernel)
theorem dX8_wave_94 : decode cX8_wave 94 = .ok (.iadd, 1) := dk_n (t := []) dk_g96 (by decide +kernel)
theorem dX8_wave_95 : decode cX8_wave 95 = .ok (.istore_n 3, 1) := dk_n (t := []) dk_g62 (by decide +kernel)
theorem dX8_wave_96 : decode cX8_wave 96 = .ok (.aload_n 0, 1) := dk_n (t := []) dk_g42 (by decide +kernel)
theorem dX8_wave_97 : decode cX8_wave 97 = .ok (.getfield 26, 3) := dk_u2 (y := 0) (z := 26) dk_g180 (by decide +kernel) rfl
theorem dX8_wave_100 : decode cX8_wave 100 = .ok (.iload 4, 2) := dk_u1 (y := 4) dk_g21 (by decide +kernel)
theorem dX8_wave_102 : decode cX8_wave 102 = .ok (.iload_n 1, 1) := dk_n (t := []) dk_g27 (by decide +kernel)
theorem dX8_wave_103 : decode cX8_wave 103 = .ok (.iastore, 1) := dk_n (t := []) dk_g79 (by decide +kernel)
theorem dX8_wave_104 : decode cX8_wave 104 = .ok (.iconst 0, 1) := dk_n (t := []) dk_g3 (by decide +kernel)
theorem dX8_wave_105 : decode cX8_wave 105 = .ok (.istore 5, 2) := dk_u1 (y := 5) dk_g54 (by decide +kernel)
theorem dX8_wave_107 : decode cX8_wave 107 = .ok (.iload 5, 2) := dk_u1 (y := 5) dk_g21 (by decide +kernel)
theorem dX8_wave_109 : decode cX8_wave 109 = .ok (.iconst 5, 1) := dk_n (t := []) dk_g8 (by decide +kernel)
theorem dX8_wave_110 : decode cX8_wave 110 = .ok (.if_icmp .ge 35, 3) := dk_s2 (y := 0) (z := 35) dk_g162 (by decide +kernel) rfl
theorem dX8_wave_113 : decode cX8_wave 113 = .ok (.aload_n 0, 1) := dk_n (t := []) dk_g42 (by decide +kernel)
theorem dX8_wave_114 : decode cX8_wave 114 = .ok (.getfield 29, 3) := dk_u2 (y := 0) (z := 29) dk_g180 (by decide +kernel) rfl
theorem dX8_wave_117 : decode cX8_wave 117 = .ok (.iload 4, 2) := dk_u1 (y := 4) dk_g21 (by decide +kernel)
theorem dX8_wave_119 : decode cX8_wave 119 = .ok (.iconst 5, 1) := dk_n (t := []) dk_g8 (by decide +kernel)
theorem dX8_wave_120 : decode cX8_wave 120 = .ok (.imul, 1) := dk_n (t := []) dk_g104 (by decide +kernel)
theorem dX8_wave_121 : decode cX8_wave 121 = .ok (.iload 5, 2) := dk_u1 (y := 5) dk_g21 (by decide +kernel)
theorem dX8_wave_123 : decode cX8_wave 123 = .ok (.iadd, 1) := dk_n (t := []) dk_g96 (by decide +kernel)
theorem dX8_wave_124 : decode cX8_wave 124 = .ok (.aload_n 0, 1) := dk_n (t := []) dk_g42 (by decide +kernel)
theorem dX8_wave_125 : decode cX8_wave 125 = .ok (.getfield 23, 3) := dk_u2 (y := 0) (z := 23) dk_g180 (by decide +kernel) rfl
theorem dX8_wave_128 : decode cX8_wave 128 = .ok (.iload_n 1, 1) := dk_n (t := []) dk_g27 (by decide +kernel)
theorem dX8_wave_129 : decode cX8_wave 129 = .ok (.invokevirtual 71, 3) := dk_u2 (y := 0) (z := 71) dk_g182 (by decide +kernel) rfl
theorem dX8_wave_132 : decode cX8_wave 132 = .ok (.checkcast 200, 3) := dk_u2 (y := 0) (z := 200) dk_g192 (by decide +kernel) rfl
theorem dX8_wave_135 : decode cX8_wave 135 = .ok (.iload 5, 2) := dk_u1 (y := 5) dk_g21 (by decide +kernel)
theorem dX8_wave_137 : decode cX8_wave 137 = .ok (.iaload, 1) := dk_n (t := []) dk_g46 (by decide +kernel)
theorem dX8_wave_138 : decode cX8_wave 138 = .ok (.iastore, 1) := dk_n (t := []) dk_g79 (by decide +kernel)
theorem dX8_wave_139 : decode cX8_wave 139 = .ok (.iinc 5 1, 3) := dk_ii (y := 5) (z := 1) dk_g132 (by decide +kernel) rfl
theorem dX8_wave_142 : decode cX8_wave 142 = .ok (.goto (-35), 3) := dk_s2 (y := 255) (z := 221) dk_g167 (by decide +kernel) rfl
theorem dX8_wave_145 : decode cX8_wave 145 = .ok (.iinc 4 1, 3) := dk_ii (y := 4) (z := 1) dk_g132 (by decide +kernel) rfl
theorem dX8_wave_148 : decode cX8_wave 148 = .ok (.goto (-99), 3) := dk_s2 (y := 255) (z := 157) dk_g167 (by decide +kernel) rfl
theorem dX8_wave_151 : decode cX8_wave 151 = .ok (.iload_n 3, 1) := dk_n (t := []) dk_g29 (by decide +kernel)
theorem dX8_wave_152 : decode cX8_wave 152 = .ok (.ireturn, 1) := dk_n (t := []) dk_g172 (by decide +kernel)
theorem dX8_patch_0 : decode cX8_patch 0 = .ok (.aload_n 0, 1) := dk_n (t := []) dk_g42 (by decide +kernel)
theorem dX8_patch_1 : decode cX8_patch 1 = .ok (.iconst 0, 1) := dk_n (t := []) dk_g3 (by decide +kernel)
theorem dX8_patch_2 : decode cX8_patch 2 = .ok (.putfield 41, 3) := dk_u2 (y := 0) (z := 41) dk_g181 (by decide +kernel) rfl
theorem dX8_patch_5 : decode cX8_patch 5 = .ok (.iload_n 1, 1) := dk_n (t := []) dk_g27 (by decide +kernel)
theorem dX8_patch_6 : decode cX8_patch 6 = .ok (.invokestatic 207, 3) := dk_u2 (y := 0) (z := 207) dk_g184 (by decide +kernel) rfl
theorem dX8_patch_9 : decode cX8_patch 9 = .ok (.ifCond .eq 11, 3) := dk_s2 (y := 0) (z := 11) dk_g153 (by decide +kernel) rfl
theorem dX8_patch_12 : decode cX8_patch 12 = .ok (.aload_n 0, 1) := dk_n (t := []) dk_g42 (by decide +kernel)
theorem dX8_patch_13 : decode cX8_patch 13 = .ok (.iload_n 2, 1) := dk_n (t := []) dk_g28 (by decide +kernel)
theorem dX8_patch_14 : decode cX8_patch 14 = .ok (.invokevirtual 86, 3) := dk_u2 (y := 0) (z := 86) dk_g182 (by decide +kernel) rfl
theorem dX8_patch_17 : decode cX8_patch 17 = .ok (.ifCond .ne 9, 3) := dk_s2 (y := 0) (z := 9) dk_g154 (by decide +kernel) rfl
theorem dX8_patch_20 : decode cX8_patch 20 = .ok (.aload_n 0, 1) := dk_n (t := []) dk_g42 (by decide +kernel)
theorem dX8_patch_21 : decode cX8_patch 21 = .ok (.iconst 1, 1) := dk_n (t := []) dk_g4 (by decide +kernel)
theorem dX8_patch_22 : decode cX8_patch 22 = .ok (.invokevirtual 82, 3) := dk_u2 (y := 0) (z := 82) dk_g182 (by decide +kernel) rfl
theorem dX8_patch_25 : decode cX8_patch 25 = .ok (.ireturn, 1) := dk_n (t := []) dk_g172 (by decide +kernel)
theorem dX8_patch_26 : decode cX8_patch 26 = .ok (.iload_n 3, 1) := dk_n (t := []) dk_g29 (by decide +kernel)
theorem dX8_patch_27 : decode cX8_patch 27 = .ok (.iconst 0, 1) := dk_n (t := []) dk_g3 (by decide +kernel)
theorem dX8_patch_28 : decode cX8_patch 28 = .ok (.bipush 7, 2) := dk_s1 (y := 7) dk_g16 (by decide +kernel) rfl
theorem dX8_patch_30 : decode cX8_patch 30 = .ok (.invokestatic 48, 3) := dk_u2 (y := 0) (z := 48) dk_g184 (by decide +kernel) rfl
theorem dX8_patch_33 : decode cX8_patch 33 = .ok (.ifCond .ne 9, 3) := dk_s2 (y := 0) (z := 9) dk_g154 (by decide +kernel) rfl
theorem dX8_patch_36 : decode cX8_patch 36 = .ok (.aload_n 0, 1) := dk_n (t := []) dk_g42 (by decide +kernel)
theorem dX8_patch_37 : decode cX8_patch 37 = .ok (.iconst 2, 1) := dk_n (t := []) dk_g5 (by decide +kernel)
theorem dX8_patch_38 : decode cX8_patch 38 = .ok (.invokevirtual 82, 3) := dk_u2 (y := 0) (z := 82) dk_g182 (by decide +kernel) rfl
theorem dX8_patch_41 : decode cX8_patch 41 = .ok (.ireturn, 1) := dk_n (t := []) dk_g172 (by decide +kernel)
theorem dX8_patch_42 : decode cX8_patch 42 = .ok (.aload_n 0, 1) := dk_n (t := []) dk_g42 (by decide +kernel)
theorem dX8_patch_43 : decode cX8_patch 43 = .ok (.getfield 29, 3) := dk_u2 (y := 0) (z := 29) dk_g180 (by decide +kernel) rfl
theorem dX8_patch_46 : decode cX8_patch 46 = .ok (.iload_n 1, 1) := dk_n (t := []) dk_g27 (by decide +kernel)
theorem dX8_patch_47 : decode cX8_patch 47 = .ok (.iconst 5, 1) := dk_n (t := []) dk_g8 (by decide +kernel)
theorem dX8_patch_48 : decode cX8_patch 48 = .ok (.imul, 1) := dk_n (t := []) dk_g104 (by decide +kernel)
theorem dX8_patch_49 : decode cX8_patch 49 = .ok (.iload_n 2, 1) := dk_n (t := []) dk_g28 (by decide +kernel)
theorem dX8_patch_50 : decode cX8_patch 50 = .ok (.iadd, 1) := dk_n (t := []) dk_g96 (by decide +kernel)
theorem dX8_patch_51 : decode cX8_patch 51 = .ok (.iaload, 1) := dk_n (t := []) dk_g46 (by decide +kernel)
theorem dX8_patch_52 : decode cX8_patch 52 = .ok (.istore 4, 2) := dk_u1 (y := 4) dk_g54 (by decide +kernel)
theorem dX8_patch_54 : decode cX8_patch 54 = .ok (.aload_n 0, 1) := dk_n (t := []) dk_g42 (by decide +kernel)
theorem dX8_patch_55 : decode cX8_patch 55 = .ok (.getfield 29, 3) := dk_u2 (y := 0) (z := 29) dk_g180 (by decide +kernel) rfl
theorem dX8_patch_58 : decode cX8_patch 58 = .ok (.iload_n 1, 1) := dk_n (t := []) dk_g27 (by decide +kernel)
theorem dX8_patch_59 : decode cX8_patch 59 = .ok (.iconst 5, 1) := dk_n (t := []) dk_g8 (by decide +kernel)
theorem dX8_patch_60 : decode cX8_patch 60 = .ok (.imul, 1) := dk_n (t := []) dk_g104 (by decide +kernel)
theorem dX8_patch_61 : decode cX8_patch 61 = .ok (.iload_n 2, 1) := dk_n (t := []) dk_g28 (by decide +kernel)
theorem dX8_patch_62 : decode cX8_patch 62 = .ok (.iadd, 1) := dk_n (t := []) dk_g96 (by decide +kernel)
theorem dX8_patch_63 : decode cX8_patch 63 = .ok (.iload_n 3, 1) := dk_n (t := []) dk_g29 (by decide +kernel)
theorem dX8_patch_64 : decode cX8_patch 64 = .ok (.iastore, 1) := dk_n (t := []) dk_g79 (by decide +kernel)
theorem dX8_patch_65 : decode cX8_patch 65 = .ok (.iload 4, 2) := dk_u1 (y := 4) dk_g21 (by decide +kernel)
theorem dX8_patch_67 : decode cX8_patch 67 = .ok (.ireturn, 1) := dk_n (t := []) dk_g172 (by decide +kernel)
theorem dX8_absorb_0 : decode cX8_absorb 0 = .ok (.aload_n 0, 1) := dk_n (t := []) dk_g42 (by decide +kernel)
theorem dX8_absorb_1 : decode cX8_absorb 1 = .ok (.iconst 0, 1) := dk_n (t := []) dk_g3 (by decide +kernel)
theorem dX8_absorb_2 : decode cX8_absorb 2 = .ok (.putfield 41, 3) := dk_u2 (y := 0) (z := 41) dk_g181 (by decide +kernel) rfl
theorem dX8_absorb_5 : decode cX8_absorb 5 = .ok (.iload_n 1, 1) := dk_n (t := []) dk_g27 (by decide +kernel)
theorem dX8_absorb_6 : decode cX8_absorb 6 = .ok (.invokestatic 207, 3) := dk_u2 (y := 0) (z := 207) dk_g184 (by decide +kernel) rfl
theorem dX8_absorb_9 : decode cX8_absorb 9 = .ok (.ifCond .eq 11, 3) := dk_s2 (y := 0) (z := 11) dk_g153 (by decide +kernel) rfl
theorem dX8_absorb_12 : decode cX8_absorb 12 = .ok (.aload_n 0, 1) := dk_n (t := []) dk_g42 (by decide +kernel)
theorem dX8_absorb_13 : decode cX8_absorb 13 = .ok (.iload_n 2, 1) := dk_n (t := []) dk_g28 (by decide +kernel)
theorem dX8_absorb_14 : decode cX8_absorb 14 = .ok (.invokevirtual 86, 3) := dk_u2 (y := 0) (z := 86) dk_g182 (by decide +kernel) rfl
theorem dX8_absorb_17 : decode cX8_absorb 17 = .ok (.ifCond .ne 9, 3) := dk_s2 (y := 0) (z := 9) dk_g154 (by decide +kernel) rfl
theorem dX8_absorb_20 : decode cX8_absorb 20 = .ok (.aload_n 0, 1) := dk_n (t := []) dk_g42 (by decide +kernel)
theorem dX8_absorb_21 : decode cX8_absorb 21 = .ok (.iconst 1, 1) := dk_n (t := []) dk_g4 (by decide +kernel)
theorem dX8_absorb_22 : decode cX8_absorb 22 = .ok (.invokevirtual 82, 3) := dk_u2 (y := 0) (z := 82) dk_g182 (by decide +kernel) rfl
theorem dX8_absorb_25 : decode cX8_absorb 25 = .ok (.ireturn, 1) := dk_n (t := []) dk_g172 (by decide +kernel)
theorem dX8_absorb_26 : decode cX8_absorb 26 = .ok (.aload_n 0, 1) := dk_n (t := []) dk_g42 (by decide +kernel)
theorem dX8_absorb_27 : decode cX8_absorb 27 = .ok (.iload_n 1, 1) := dk_n (t := []) dk_g27 (by decide +kernel)
theorem dX8_absorb_28 : decode cX8_absorb 28 = .ok (.iload_n 2, 1) := dk_n (t := []) dk_g28 (by decide +kernel)
theorem dX8_absorb_29 : decode cX8_absorb 29 = .ok (.invokevirtual 201, 3) := dk_u2 (y := 0) (z := 201) dk_g182 (by decide +kernel) rfl
theorem dX8_absorb_32 : decode cX8_absorb 32 = .ok (.ifCond .eq 15, 3) := dk_s2 (y := 0) (z := 15) dk_g153 (by decide +kernel) rfl
theorem dX8_absorb_35 : decode cX8_absorb 35 = .ok (.aload_n 0, 1) := dk_n (t := []) dk_g42 (by decide +kernel)
theorem dX8_absorb_36 : decode cX8_absorb 36 = .ok (.getfield 19, 3) := dk_u2 (y := 0) (z := 19) dk_g180 (by decide +kernel) rfl
theorem dX8_absorb_39 : decode cX8_absorb 39 = .ok (.invokevirtual 52, 3) := dk_u2 (y := 0) (z := 52) dk_g182 (by decide +kernel) rfl
theorem dX8_absorb_42 : decode cX8_absorb 42 = .ok (.bipush 30, 2) := dk_s1 (y := 30) dk_g16 (by decide +kernel) rfl
theorem dX8_absorb_44 : decode cX8_absorb 44 = .ok (.if_icmp .ne 9, 3) := dk_s2 (y := 0) (z := 9) dk_g160 (by decide +kernel) rfl
theorem dX8_absorb_47 : decode cX8_absorb 47 = .ok (.aload_n 0, 1) := dk_n (t := []) dk_g42 (by decide +kernel)
theorem dX8_absorb_48 : decode cX8_absorb 48 = .ok (.iconst 2, 1) := dk_n (t := []) dk_g5 (by decide +kernel)
theorem dX8_absorb_49 : decode cX8_absorb 49 = .ok (.invokevirtual 82, 3) := dk_u2 (y := 0) (z := 82) dk_g182 (by decide +kernel) rfl
theorem dX8_absorb_52 : decode cX8_absorb 52 = .ok (.ireturn, 1) := dk_n (t := []) dk_g172 (by decide +kernel)
theorem dX8_absorb_53 : decode cX8_absorb 53 = .ok (.aload_n 0, 1) := dk_n (t := []) dk_g42 (by decide +kernel)
theorem dX8_absorb_54 : decode cX8_absorb 54 = .ok (.iconst 0, 1) := dk_n (t := []) dk_g3 (by decide +kernel)
theorem dX8_absorb_55 : decode cX8_absorb 55 = .ok (.aload_n 0, 1) := dk_n (t := []) dk_g42 (by decide +kernel)
theorem dX8_absorb_56 : decode cX8_absorb 56 = .ok (.getfield 9, 3) := dk_u2 (y := 0) (z := 9) dk_g180 (by decide +kernel) rfl
theorem dX8_absorb_59 : decode cX8_absorb 59 = .ok (.iload_n 2, 1) := dk_n (t := []) dk_g28 (by decide +kernel)
theorem dX8_absorb_60 : decode cX8_absorb 60 = .ok (.iaload, 1) := dk_n (t := []) dk_g46 (by decide +kernel)
theorem dX8_absorb_61 : decode cX8_absorb 61 = .ok (.iload_n 2, 1) := dk_n (t := []) dk_g28 (by decide +kernel)
theorem dX8_absorb_62 : decode cX8_absorb 62 = .ok (.iconst 1, 1) := dk_n (t := []) dk_g4 (by decide +kernel)
theorem dX8_absorb_63 : decode cX8_absorb 63 = .ok (.aload_n 0, 1) := dk_n (t := []) dk_g42 (by decide +kernel)
theorem dX8_absorb_64 : decode cX8_absorb 64 = .ok (.getfield 29, 3) := dk_u2 (y := 0) (z := 29) dk_g180 (by decide +kernel) rfl
theorem dX8_absorb_67 : decode cX8_absorb 67 = .ok (.iload_n 1, 1) := dk_n (t := []) dk_g27 (by decide +kernel)
theorem dX8_absorb_68 : decode cX8_absorb 68 = .ok (.iconst 5, 1) := dk_n (t := []) dk_g8 (by decide +kernel)
theorem dX8_absorb_69 : decode cX8_absorb 69 = .ok (.imul, 1) := dk_n (t := []) dk_g104 (by decide +kernel)
theorem dX8_absorb_70 : decode cX8_absorb 70 = .ok (.iload_n 2, 1) := dk_n (t := []) dk_g28 (by decide +kernel)
theorem dX8_absorb_71 : decode cX8_absorb 71 = .ok (.iadd, 1) := dk_n (t := []) dk_g96 (by decide +kernel)
theorem dX8_absorb_72 : decode cX8_absorb 72 = .ok (.iaload, 1) := dk_n (t := []) dk_g46 (by decide +kernel)
theorem dX8_absorb_73 : decode cX8_absorb 73 = .ok (.ishl, 1) := dk_n (t := []) dk_g120 (by decide +kernel)
theorem dX8_absorb_74 : decode cX8_absorb 74 = .ok (.iconst 0, 1) := dk_n (t := []) dk_g3 (by decide +kernel)
theorem dX8_absorb_75 : decode cX8_absorb 75 = .ok (.iconst 1, 1) := dk_n (t := []) dk_g4 (by decide +kernel)
theorem dX8_absorb_76 : decode cX8_absorb 76 = .ok (.invokevirtual 101, 3) := dk_u2 (y := 0) (z := 101) dk_g182 (by decide +kernel) rfl
theorem dX8_absorb_79 : decode cX8_absorb 79 = .ok (.ireturn, 1) := dk_n (t := []) dk_g172 (by decide +kernel)
theorem dX8_knock_0 : decode cX8_knock 0 = .ok (.aload_n 0, 1) := dk_n (t := []) dk_g42 (by decide +kernel)
theorem dX8_knock_1 : decode cX8_knock 1 = .ok (.iconst 0, 1) := dk_n (t := []) dk_g3 (by decide +kernel)
theorem dX8_knock_2 : decode cX8_knock 2 = .ok (.putfield 41, 3) := dk_u2 (y := 0) (z := 41) dk_g181 (by decide +kernel) rfl
theorem dX8_knock_5 : decode cX8_knock 5 = .ok (.aload_n 0, 1) := dk_n (t := []) dk_g42 (by decide +kernel)
theorem dX8_knock_6 : decode cX8_knock 6 = .ok (.dup, 1) := dk_n (t := []) dk_g89 (by decide +kernel)
theorem dX8_knock_7 : decode cX8_knock 7 = .ok (.getfield 210, 3) := dk_u2 (y := 0) (z := 210) dk_g180 (by decide +kernel) rfl
theorem dX8_knock_10 : decode cX8_knock 10 = .ok (.iconst 1, 1) := dk_n (t := []) dk_g4 (by decide +kernel)
theorem dX8_knock_11 : decode cX8_knock 11 = .ok (.iadd, 1) := dk_n (t := []) dk_g96 (by decide +kernel)
theorem dX8_knock_12 : decode cX8_knock 12 = .ok (.putfield 210, 3) := dk_u2 (y := 0) (z := 210) dk_g181 (by decide +kernel) rfl
theorem dX8_knock_15 : decode cX8_knock 15 = .ok (.aload_n 0, 1) := dk_n (t := []) dk_g42 (by decide +kernel)
theorem dX8_knock_16 : decode cX8_knock 16 = .ok (.getfield 210, 3) := dk_u2 (y := 0) (z := 210) dk_g180 (by decide +kernel) rfl
theorem dX8_knock_19 : decode cX8_knock 19 = .ok (.ireturn, 1) := dk_n (t := []) dk_g172 (by decide +kernel)
theorem dX8_changed_0 : decode cX8_changed 0 = .ok (.iconst 1, 1) := dk_n (t := []) dk_g4 (by decide +kernel)
theorem dX8_changed_1 : decode cX8_changed 1 = .ok (.istore_n 2, 1) := dk_n (t := []) dk_g61 (by decide +kernel)
theorem dX8_changed_2 : decode cX8_changed 2 = .ok (.iload_n 2, 1) := dk_n (t := []) dk_g28 (by decide +kernel)
theorem dX8_changed_3 : decode cX8_changed 3 = .ok (.aload_n 0, 1) := dk_n (t := []) dk_g42 (by decide +kernel)
theorem dX8_changed_4 : decode cX8_changed 4 = .ok (.getfield 23, 3) := dk_u2 (y := 0) (z := 23) dk_g180 (by decide +kernel) rfl
theorem dX8_changed_7 : decode cX8_changed 7 = .ok (.invokevirtual 52, 3) := dk_u2 (y := 0) (z := 52) dk_g182 (by decide +kernel) rfl
theorem dX8_changed_10 : decode cX8_changed 10 = .ok (.if_icmp .ge 42, 3) := dk_s2 (y := 0) (z := 42) dk_g162 (by decide +kernel) rfl
theorem dX8_changed_13 : decode cX8_changed 13 = .ok (.aload_n 0, 1) := dk_n (t := []) dk_g42 (by decide +kernel)
theorem dX8_changed_14 : decode cX8_changed 14 = .ok (.getfield 23, 3) := dk_u2 (y := 0) (z := 23) dk_g180 (by decide +kernel) rfl
theorem dX8_changed_17 : decode cX8_changed 17 = .ok (.iload_n 2, 1) := dk_n (t := []) dk_g28 (by decide +kernel)
theorem dX8_changed_18 : decode cX8_changed 18 = .ok (.invokevirtual 71, 3) := dk_u2 (y := 0) (z := 71) dk_g182 (by decide +kernel) rfl
theorem dX8_changed_21 : decode cX8_changed 21 = .ok (.checkcast 200, 3) := dk_u2 (y := 0) (z := 200) dk_g192 (by decide +kernel) rfl
theorem dX8_changed_24 : decode cX8_changed 24 = .ok (.iload_n 1, 1) := dk_n (t := []) dk_g27 (by decide +kernel)
theorem dX8_changed_25 : decode cX8_changed 25 = .ok (.iaload, 1) := dk_n (t := []) dk_g46 (by decide +kernel)
theorem dX8_changed_26 : decode cX8_changed 26 = .ok (.aload_n 0, 1) := dk_n (t := []) dk_g42 (by decide +kernel)
theorem dX8_changed_27 : decode cX8_changed 27 = .ok (.getfield 23, 3) := dk_u2 (y := 0) (z := 23) dk_g180 (by decide +kernel) rfl
theorem dX8_changed_30 : decode cX8_changed 30 = .ok (.iload_n 2, 1) := dk_n (t := []) dk_g28 (by decide +kernel)
theorem dX8_changed_31 : decode cX8_changed 31 = .ok (.iconst 1, 1) := dk_n (t := []) dk_g4 (by decide +kernel)
theorem dX8_changed_32 : decode cX8_changed 32 = .ok (.isub, 1) := dk_n (t := []) dk_g100 (by decide +kernel)
theorem dX8_changed_33 : decode cX8_changed 33 = .ok (.invokevirtual 71, 3) := dk_u2 (y := 0) (z := 71) dk_g182 (by decide +kernel) rfl
theorem dX8_changed_36 : decode cX8_changed 36 = .ok (.checkcast 200, 3) := dk_u2 (y := 0) (z := 200) dk_g192 (by decide +kernel) rfl
theorem dX8_changed_39 : decode cX8_changed 39 = .ok (.iload_n 1, 1) := dk_n (t := []) dk_g27 (by decide +kernel)
theorem dX8_changed_40 : decode cX8_changed 40 = .ok (.iaload, 1) := dk_n (t := []) dk_g46 (by decide +kernel)
theorem dX8_changed_41 : decode cX8_changed 41 = .ok (.if_icmp .eq 5, 3) := dk_s2 (y := 0) (z := 5) dk_g159 (by decide +kernel) rfl
theorem dX8_changed_44 : decode cX8_changed 44 = .ok (.iload_n 2, 1) := dk_n (t := []) dk_g28 (by decide +kernel)
theorem dX8_changed_45 : decode cX8_changed 45 = .ok (.ireturn, 1) := dk_n (t := []) dk_g172 (by decide +kernel)
theorem dX8_changed_46 : decode cX8_changed 46 = .ok (.iinc 2 1, 3) := dk_ii (y := 2) (z := 1) dk_g132 (by decide +kernel) rfl
theorem dX8_changed_49 : decode cX8_changed 49 = .ok (.goto (-47), 3) := dk_s2 (y := 255) (z := 209) dk_g167 (by decide +kernel) rfl
theorem dX8_changed_52 : decode cX8_changed 52 = .ok (.iconst (-1), 1) := dk_n (t := []) dk_g2 (by decide +kernel)
theorem dX8_changed_53 : decode cX8_changed 53 = .ok (.ireturn, 1) := dk_n (t := []) dk_g172 (by decide +kernel)
theorem dX8_ofFieldNow_0 : decode cX8_ofFieldNow 0 = .ok (.iload_n 2, 1) := dk_n (t := []) dk_g28 (by decide +kernel)
theorem dX8_ofFieldNow_1 : decode cX8_ofFieldNow 1 = .ok (.tableswitch 92 0 5 #[39, 46, 52, 61, 67, 74], 39) := by decide +kernel
theorem dX8_ofFieldNow_40 : decode cX8_ofFieldNow 40 = .ok (.aload_n 0, 1) := dk_n (t := []) dk_g42 (by decide +kernel)
theorem dX8_ofFieldNow_41 : decode cX8_ofFieldNow 41 = .ok (.getfield 9, 3) := dk_u2 (y := 0) (z := 9) dk_g180 (by decide +kernel) rfl
theorem dX8_ofFieldNow_44 : decode cX8_ofFieldNow 44 = .ok (.iload_n 1, 1) := dk_n (t := []) dk_g27 (by decide +kernel)
theorem dX8_ofFieldNow_45 : decode cX8_ofFieldNow 45 = .ok (.iaload, 1) := dk_n (t := []) dk_g46 (by decide +kernel)
theorem dX8_ofFieldNow_46 : decode cX8_ofFieldNow 46 = .ok (.ireturn, 1) := dk_n (t := []) dk_g172 (by decide +kernel)
theorem dX8_ofFieldNow_47 : decode cX8_ofFieldNow 47 = .ok (.aload_n 0, 1) := dk_n (t := []) dk_g42 (by decide +kernel)
theorem dX8_ofFieldNow_48 : decode cX8_ofFieldNow 48 = .ok (.iload_n 1, 1) := dk_n (t := []) dk_g27 (by decide +kernel)
theorem dX8_ofFieldNow_49 : decode cX8_ofFieldNow 49 = .ok (.invokevirtual 213, 3) := dk_u2 (y := 0) (z := 213) dk_g182 (by decide +kernel) rfl
theorem dX8_ofFieldNow_52 : decode cX8_ofFieldNow 52 = .ok (.ireturn, 1) := dk_n (t := []) dk_g172 (by decide +kernel)
theorem dX8_ofFieldNow_53 : decode cX8_ofFieldNow 53 = .ok (.aload_n 0, 1) := dk_n (t := []) dk_g42 (by decide +kernel)
theorem dX8_ofFieldNow_54 : decode cX8_ofFieldNow 54 = .ok (.iload_n 1, 1) := dk_n (t := []) dk_g27 (by decide +kernel)
theorem dX8_ofFieldNow_55 : decode cX8_ofFieldNow 55 = .ok (.invokevirtual 213, 3) := dk_u2 (y := 0) (z := 213) dk_g182 (by decide +kernel) rfl
theorem dX8_ofFieldNow_58 : decode cX8_ofFieldNow 58 = .ok (.invokestatic 118, 3) := dk_u2 (y := 0) (z := 118) dk_g184 (by decide +kernel) rfl
theorem dX8_ofFieldNow_61 : decode cX8_ofFieldNow 61 = .ok (.ireturn, 1) := dk_n (t := []) dk_g172 (by decide +kernel)
theorem dX8_ofFieldNow_62 : decode cX8_ofFieldNow 62 = .ok (.aload_n 0, 1) := dk_n (t := []) dk_g42 (by decide +kernel)
theorem dX8_ofFieldNow_63 : decode cX8_ofFieldNow 63 = .ok (.iload_n 1, 1) := dk_n (t := []) dk_g27 (by decide +kernel)
theorem dX8_ofFieldNow_64 : decode cX8_ofFieldNow 64 = .ok (.invokevirtual 216, 3) := dk_u2 (y := 0) (z := 216) dk_g182 (by decide +kernel) rfl
theorem dX8_ofFieldNow_67 : decode cX8_ofFieldNow 67 = .ok (.ireturn, 1) := dk_n (t := []) dk_g172 (by decide +kernel)
theorem dX8_ofFieldNow_68 : decode cX8_ofFieldNow 68 = .ok (.aload_n 0, 1) := dk_n (t := []) dk_g42 (by decide +kernel)
theorem dX8_ofFieldNow_69 : decode cX8_ofFieldNow 69 = .ok (.getfield 13, 3) := dk_u2 (y := 0) (z := 13) dk_g180 (by decide +kernel) rfl
theorem dX8_ofFieldNow_72 : decode cX8_ofFieldNow 72 = .ok (.iload_n 1, 1) := dk_n (t := []) dk_g27 (by decide +kernel)
theorem dX8_ofFieldNow_73 : decode cX8_ofFieldNow 73 = .ok (.iaload, 1) := dk_n (t := []) dk_g46 (by decide +kernel)
theorem dX8_ofFieldNow_74 : decode cX8_ofFieldNow 74 = .ok (.ireturn, 1) := dk_n (t := []) dk_g172 (by decide +kernel)
theorem dX8_ofFieldNow_75 : decode cX8_ofFieldNow 75 = .ok (.aload_n 0, 1) := dk_n (t := []) dk_g42 (by decide +kernel)
theorem dX8_ofFieldNow_76 : decode cX8_ofFieldNow 76 = .ok (.invokevirtual 219, 3) := dk_u2 (y := 0) (z := 219) dk_g182 (by decide +kernel) rfl
theorem dX8_ofFieldNow_79 : decode cX8_ofFieldNow 79 = .ok (.ifCond .eq 12, 3) := dk_s2 (y := 0) (z := 12) dk_g153 (by decide +kernel) rfl
theorem dX8_ofFieldNow_82 : decode cX8_ofFieldNow 82 = .ok (.aload_n 0, 1) := dk_n (t := []) dk_g42 (by decide +kernel)
theorem dX8_ofFieldNow_83 : decode cX8_ofFieldNow 83 = .ok (.getfield 38, 3) := dk_u2 (y := 0) (z := 38) dk_g180 (by decide +kernel) rfl
theorem dX8_ofFieldNow_86 : decode cX8_ofFieldNow 86 = .ok (.iload_n 1, 1) := dk_n (t := []) dk_g27 (by decide +kernel)
theorem dX8_ofFieldNow_87 : decode cX8_ofFieldNow 87 = .ok (.iaload, 1) := dk_n (t := []) dk_g46 (by decide +kernel)
theorem dX8_ofFieldNow_88 : decode cX8_ofFieldNow 88 = .ok (.goto 4, 3) := dk_s2 (y := 0) (z := 4) dk_g167 (by decide +kernel) rfl
theorem dX8_ofFieldNow_91 : decode cX8_ofFieldNow 91 = .ok (.iconst (-1), 1) := dk_n (t := []) dk_g2 (by decide +kernel)
theorem dX8_ofFieldNow_92 : decode cX8_ofFieldNow 92 = .ok (.ireturn, 1) := dk_n (t := []) dk_g172 (by decide +kernel)
theorem dX8_ofFieldNow_93 : decode cX8_ofFieldNow 93 = .ok (.aload_n 0, 1) := dk_n (t := []) dk_g42 (by decide +kernel)
theorem dX8_ofFieldNow_94 : decode cX8_ofFieldNow 94 = .ok (.iload_n 1, 1) := dk_n (t := []) dk_g27 (by decide +kernel)
theorem dX8_ofFieldNow_95 : decode cX8_ofFieldNow 95 = .ok (.invokevirtual 222, 3) := dk_u2 (y := 0) (z := 222) dk_g182 (by decide +kernel) rfl
theorem dX8_ofFieldNow_98 : decode cX8_ofFieldNow 98 = .ok (.ireturn, 1) := dk_n (t := []) dk_g172 (by decide +kernel)
theorem dX8_ofField_0 : decode cX8_ofField 0 = .ok (.aload_n 0, 1) := dk_n (t := []) dk_g42 (by decide +kernel)
theorem dX8_ofField_1 : decode cX8_ofField 1 = .ok (.iconst 0, 1) := dk_n (t := []) dk_g3 (by decide +kernel)
theorem dX8_ofField_2 : decode cX8_ofField 2 = .ok (.putfield 41, 3) := dk_u2 (y := 0) (z := 41) dk_g181 (by decide +kernel) rfl
theorem dX8_ofField_5 : decode cX8_ofField 5 = .ok (.aload_n 0, 1) := dk_n (t := []) dk_g42 (by decide +kernel)
theorem dX8_ofField_6 : decode cX8_ofField 6 = .ok (.iload_n 1, 1) := dk_n (t := []) dk_g27 (by decide +kernel)
theorem dX8_ofField_7 : decode cX8_ofField 7 = .ok (.invokevirtual 86, 3) := dk_u2 (y := 0) (z := 86) dk_g182 (by decide +kernel) rfl
theorem dX8_ofField_10 : decode cX8_ofField 10 = .ok (.ifCond .ne 9, 3) := dk_s2 (y := 0) (z := 9) dk_g154 (by decide +kernel) rfl
theorem dX8_ofField_13 : decode cX8_ofField 13 = .ok (.aload_n 0, 1) := dk_n (t := []) dk_g42 (by decide +kernel)
theorem dX8_ofField_14 : decode cX8_ofField 14 = .ok (.iconst 1, 1) := dk_n (t := []) dk_g4 (by decide +kernel)
theorem dX8_ofField_15 : decode cX8_ofField 15 = .ok (.invokevirtual 82, 3) := dk_u2 (y := 0) (z := 82) dk_g182 (by decide +kernel) rfl
theorem dX8_ofField_18 : decode cX8_ofField 18 = .ok (.ireturn, 1) := dk_n (t := []) dk_g172 (by decide +kernel)
theorem dX8_ofField_19 : decode cX8_ofField 19 = .ok (.iload_n 2, 1) := dk_n (t := []) dk_g28 (by decide +kernel)
theorem dX8_ofField_20 : decode cX8_ofField 20 = .ok (.iconst 0, 1) := dk_n (t := []) dk_g3 (by decide +kernel)
theorem dX8_ofField_21 : decode cX8_ofField 21 = .ok (.bipush 6, 2) := dk_s1 (y := 6) dk_g16 (by decide +kernel) rfl
theorem dX8_ofField_23 : decode cX8_ofField 23 = .ok (.invokestatic 48, 3) := dk_u2 (y := 0) (z := 48) dk_g184 (by decide +kernel) rfl
theorem dX8_ofField_26 : decode cX8_ofField 26 = .ok (.ifCond .eq 12, 3) := dk_s2 (y := 0) (z := 12) dk_g153 (by decide +kernel) rfl
theorem dX8_ofField_29 : decode cX8_ofField 29 = .ok (.aload_n 0, 1) := dk_n (t := []) dk_g42 (by decide +kernel)
theorem dX8_ofField_30 : decode cX8_ofField 30 = .ok (.iload_n 1, 1) := dk_n (t := []) dk_g27 (by decide +kernel)
theorem dX8_ofField_31 : decode cX8_ofField 31 = .ok (.iload_n 2, 1) := dk_n (t := []) dk_g28 (by decide +kernel)
theorem dX8_ofField_32 : decode cX8_ofField 32 = .ok (.invokevirtual 225, 3) := dk_u2 (y := 0) (z := 225) dk_g182 (by decide +kernel) rfl
theorem dX8_ofField_35 : decode cX8_ofField 35 = .ok (.goto 8, 3) := dk_s2 (y := 0) (z := 8) dk_g167 (by decide +kernel) rfl
theorem dX8_ofField_38 : decode cX8_ofField 38 = .ok (.aload_n 0, 1) := dk_n (t := []) dk_g42 (by decide +kernel)
theorem dX8_ofField_39 : decode cX8_ofField 39 = .ok (.iconst 2, 1) := dk_n (t := []) dk_g5 (by decide +kernel)
theorem dX8_ofField_40 : decode cX8_ofField 40 = .ok (.invokevirtual 82, 3) := dk_u2 (y := 0) (z := 82) dk_g182 (by decide +kernel) rfl
theorem dX8_ofField_43 : decode cX8_ofField 43 = .ok (.ireturn, 1) := dk_n (t := []) dk_g172 (by decide +kernel)
theorem dX8_ofLineNow_0 : decode cX8_ofLineNow 0 = .ok (.aload_n 0, 1) := dk_n (t := []) dk_g42 (by decide +kernel)
theorem dX8_ofLineNow_1 : decode cX8_ofLineNow 1 = .ok (.getfield 19, 3) := dk_u2 (y := 0) (z := 19) dk_g180 (by decide +kernel) rfl
theorem dX8_ofLineNow_4 : decode cX8_ofLineNow 4 = .ok (.iload_n 1, 1) := dk_n (t := []) dk_g27 (by decide +kernel)
theorem dX8_ofLineNow_5 : decode cX8_ofLineNow 5 = .ok (.invokevirtual 71, 3) := dk_u2 (y := 0) (z := 71) dk_g182 (by decide +kernel) rfl
theorem dX8_ofLineNow_8 : decode cX8_ofLineNow 8 = .ok (.checkcast 57, 3) := dk_u2 (y := 0) (z := 57) dk_g192 (by decide +kernel) rfl
theorem dX8_ofLineNow_11 : decode cX8_ofLineNow 11 = .ok (.astore_n 3, 1) := dk_n (t := []) dk_g78 (by decide +kernel)
theorem dX8_ofLineNow_12 : decode cX8_ofLineNow 12 = .ok (.iload_n 2, 1) := dk_n (t := []) dk_g28 (by decide +kernel)
theorem dX8_ofLineNow_13 : decode cX8_ofLineNow 13 = .ok (.tableswitch 78 0 5 #[39, 44, 49, 54, 59, 64], 39) := by decide +kernel
theorem dX8_ofLineNow_52 : decode cX8_ofLineNow 52 = .ok (.aload_n 3, 1) := dk_n (t := []) dk_g45 (by decide +kernel)
theorem dX8_ofLineNow_53 : decode cX8_ofLineNow 53 = .ok (.getfield 79, 3) := dk_u2 (y := 0) (z := 79) dk_g180 (by decide +kernel) rfl
theorem dX8_ofLineNow_56 : decode cX8_ofLineNow 56 = .ok (.ireturn, 1) := dk_n (t := []) dk_g172 (by decide +kernel)
theorem dX8_ofLineNow_57 : decode cX8_ofLineNow 57 = .ok (.aload_n 3, 1) := dk_n (t := []) dk_g45 (by decide +kernel)
theorem dX8_ofLineNow_58 : decode cX8_ofLineNow 58 = .ok (.getfield 62, 3) := dk_u2 (y := 0) (z := 62) dk_g180 (by decide +kernel) rfl
theorem dX8_ofLineNow_61 : decode cX8_ofLineNow 61 = .ok (.ireturn, 1) := dk_n (t := []) dk_g172 (by decide +kernel)
theorem dX8_ofLineNow_62 : decode cX8_ofLineNow 62 = .ok (.aload_n 3, 1) := dk_n (t := []) dk_g45 (by decide +kernel)
theorem dX8_ofLineNow_63 : decode cX8_ofLineNow 63 = .ok (.getfield 65, 3) := dk_u2 (y := 0) (z := 65) dk_g180 (by decide +kernel) rfl
theorem dX8_ofLineNow_66 : decode cX8_ofLineNow 66 = .ok (.ireturn, 1) := dk_n (t := []) dk_g172 (by decide +kernel)
theorem dX8_ofLineNow_67 : decode cX8_ofLineNow 67 = .ok (.aload_n 3, 1) := dk_n (t := []) dk_g45 (by decide +kernel)
theorem dX8_ofLineNow_68 : decode cX8_ofLineNow 68 = .ok (.getfield 91, 3) := dk_u2 (y := 0) (z := 91) dk_g180 (by decide +kernel) rfl
theorem dX8_ofLineNow_71 : decode cX8_ofLineNow 71 = .ok (.ireturn, 1) := dk_n (t := []) dk_g172 (by decide +kernel)
theorem dX8_ofLineNow_72 : decode cX8_ofLineNow 72 = .ok (.aload_n 3, 1) := dk_n (t := []) dk_g45 (by decide +kernel)
theorem dX8_ofLineNow_73 : decode cX8_ofLineNow 73 = .ok (.getfield 94, 3) := dk_u2 (y := 0) (z := 94) dk_g180 (by decide +kernel) rfl
theorem dX8_ofLineNow_76 : decode cX8_ofLineNow 76 = .ok (.ireturn, 1) := dk_n (t := []) dk_g172 (by decide +kernel)
theorem dX8_ofLineNow_77 : decode cX8_ofLineNow 77 = .ok (.aload_n 0, 1) := dk_n (t := []) dk_g42 (by decide +kernel)
theorem dX8_ofLineNow_78 : decode cX8_ofLineNow 78 = .ok (.aload_n 3, 1) := dk_n (t := []) dk_g45 (by decide +kernel)
theorem dX8_ofLineNow_79 : decode cX8_ofLineNow 79 = .ok (.invokevirtual 75, 3) := dk_u2 (y := 0) (z := 75) dk_g182 (by decide +kernel) rfl
theorem dX8_ofLineNow_82 : decode cX8_ofLineNow 82 = .ok (.ifCond .eq 7, 3) := dk_s2 (y := 0) (z := 7) dk_g153 (by decide +kernel) rfl
theorem dX8_ofLineNow_85 : decode cX8_ofLineNow 85 = .ok (.iconst 1, 1) := dk_n (t := []) dk_g4 (by decide +kernel)
theorem dX8_ofLineNow_86 : decode cX8_ofLineNow 86 = .ok (.goto 4, 3) := dk_s2 (y := 0) (z := 4) dk_g167 (by decide +kernel) rfl
theorem dX8_ofLineNow_89 : decode cX8_ofLineNow 89 = .ok (.iconst 0, 1) := dk_n (t := []) dk_g3 (by decide +kernel)
theorem dX8_ofLineNow_90 : decode cX8_ofLineNow 90 = .ok (.ireturn, 1) := dk_n (t := []) dk_g172 (by decide +kernel)
theorem dX8_ofLineNow_91 : decode cX8_ofLineNow 91 = .ok (.aload_n 0, 1) := dk_n (t := []) dk_g42 (by decide +kernel)
theorem dX8_ofLineNow_92 : decode cX8_ofLineNow 92 = .ok (.iconst (-1), 1) := dk_n (t := []) dk_g2 (by decide +kernel)
theorem dX8_ofLineNow_93 : decode cX8_ofLineNow 93 = .ok (.invokevirtual 228, 3) := dk_u2 (y := 0) (z := 228) dk_g182 (by decide +kernel) rfl
theorem dX8_ofLineNow_96 : decode cX8_ofLineNow 96 = .ok (.iload_n 1, 1) := dk_n (t := []) dk_g27 (by decide +kernel)
theorem dX8_ofLineNow_97 : decode cX8_ofLineNow 97 = .ok (.ishr, 1) := dk_n (t := []) dk_g122 (by decide +kernel)
theorem dX8_ofLineNow_98 : decode cX8_ofLineNow 98 = .ok (.iconst 1, 1) := dk_n (t := []) dk_g4 (by decide +kernel)
theorem dX8_ofLineNow_99 : decode cX8_ofLineNow 99 = .ok (.iand, 1) := dk_n (t := []) dk_g126 (by decide +kernel)
theorem dX8_ofLineNow_100 : decode cX8_ofLineNow 100 = .ok (.ireturn, 1) := dk_n (t := []) dk_g172 (by decide +kernel)
theorem dX8_ofLine_0 : decode cX8_ofLine 0 = .ok (.aload_n 0, 1) := dk_n (t := []) dk_g42 (by decide +kernel)
theorem dX8_ofLine_1 : decode cX8_ofLine 1 = .ok (.iconst 0, 1) := dk_n (t := []) dk_g3 (by decide +kernel)
theorem dX8_ofLine_2 : decode cX8_ofLine 2 = .ok (.putfield 41, 3) := dk_u2 (y := 0) (z := 41) dk_g181 (by decide +kernel) rfl
theorem dX8_ofLine_5 : decode cX8_ofLine 5 = .ok (.aload_n 0, 1) := dk_n (t := []) dk_g42 (by decide +kernel)
theorem dX8_ofLine_6 : decode cX8_ofLine 6 = .ok (.iload_n 1, 1) := dk_n (t := []) dk_g27 (by decide +kernel)
theorem dX8_ofLine_7 : decode cX8_ofLine 7 = .ok (.invokevirtual 105, 3) := dk_u2 (y := 0) (z := 105) dk_g182 (by decide +kernel) rfl
theorem dX8_ofLine_10 : decode cX8_ofLine 10 = .ok (.ifCond .ne 9, 3) := dk_s2 (y := 0) (z := 9) dk_g154 (by decide +kernel) rfl
theorem dX8_ofLine_13 : decode cX8_ofLine 13 = .ok (.aload_n 0, 1) := dk_n (t := []) dk_g42 (by decide +kernel)
theorem dX8_ofLine_14 : decode cX8_ofLine 14 = .ok (.iconst 1, 1) := dk_n (t := []) dk_g4 (by decide +kernel)
theorem dX8_ofLine_15 : decode cX8_ofLine 15 = .ok (.invokevirtual 82, 3) := dk_u2 (y := 0) (z := 82) dk_g182 (by decide +kernel) rfl
theorem dX8_ofLine_18 : decode cX8_ofLine 18 = .ok (.ireturn, 1) := dk_n (t := []) dk_g172 (by decide +kernel)
theorem dX8_ofLine_19 : decode cX8_ofLine 19 = .ok (.iload_n 2, 1) := dk_n (t := []) dk_g28 (by decide +kernel)
theorem dX8_ofLine_20 : decode cX8_ofLine 20 = .ok (.iconst 0, 1) := dk_n (t := []) dk_g3 (by decide +kernel)
theorem dX8_ofLine_21 : decode cX8_ofLine 21 = .ok (.bipush 6, 2) := dk_s1 (y := 6) dk_g16 (by decide +kernel) rfl
theorem dX8_ofLine_23 : decode cX8_ofLine 23 = .ok (.invokestatic 48, 3) := dk_u2 (y := 0) (z := 48) dk_g184 (by decide +kernel) rfl
theorem dX8_ofLine_26 : decode cX8_ofLine 26 = .ok (.ifCond .eq 12, 3) := dk_s2 (y := 0) (z := 12) dk_g153 (by decide +kernel) rfl
theorem dX8_ofLine_29 : decode cX8_ofLine 29 = .ok (.aload_n 0, 1) := dk_n (t := []) dk_g42 (by decide +kernel)
theorem dX8_ofLine_30 : decode cX8_ofLine 30 = .ok (.iload_n 1, 1) := dk_n (t := []) dk_g27 (by decide +kernel)
theorem dX8_ofLine_31 : decode cX8_ofLine 31 = .ok (.iload_n 2, 1) := dk_n (t := []) dk_g28 (by decide +kernel)
theorem dX8_ofLine_32 : decode cX8_ofLine 32 = .ok (.invokevirtual 231, 3) := dk_u2 (y := 0) (z := 231) dk_g182 (by decide +kernel) rfl
theorem dX8_ofLine_35 : decode cX8_ofLine 35 = .ok (.goto 8, 3) := dk_s2 (y := 0) (z := 8) dk_g167 (by decide +kernel) rfl
theorem dX8_ofLine_38 : decode cX8_ofLine 38 = .ok (.aload_n 0, 1) := dk_n (t := []) dk_g42 (by decide +kernel)
theorem dX8_ofLine_39 : decode cX8_ofLine 39 = .ok (.iconst 2, 1) := dk_n (t := []) dk_g5 (by decide +kernel)
theorem dX8_ofLine_40 : decode cX8_ofLine 40 = .ok (.invokevirtual 82, 3) := dk_u2 (y := 0) (z := 82) dk_g182 (by decide +kernel) rfl
theorem dX8_ofLine_43 : decode cX8_ofLine 43 = .ok (.ireturn, 1) := dk_n (t := []) dk_g172 (by decide +kernel)
theorem dX8_ofMachineNow_0 : decode cX8_ofMachineNow 0 = .ok (.iload_n 2, 1) := dk_n (t := []) dk_g28 (by decide +kernel)
theorem dX8_ofMachineNow_1 : decode cX8_ofMachineNow 1 = .ok (.ifCond .ne 12, 3) := dk_s2 (y := 0) (z := 12) dk_g154 (by decide +kernel) rfl
theorem dX8_ofMachineNow_4 : decode cX8_ofMachineNow 4 = .ok (.aload_n 0, 1) := dk_n (t := []) dk_g42 (by decide +kernel)
theorem dX8_ofMachineNow_5 : decode cX8_ofMachineNow 5 = .ok (.getfield 26, 3) := dk_u2 (y := 0) (z := 26) dk_g180 (by decide +kernel) rfl
theorem dX8_ofMachineNow_8 : decode cX8_ofMachineNow 8 = .ok (.iload_n 1, 1) := dk_n (t := []) dk_g27 (by decide +kernel)
theorem dX8_ofMachineNow_9 : decode cX8_ofMachineNow 9 = .ok (.iaload, 1) := dk_n (t := []) dk_g46 (by decide +kernel)
theorem dX8_ofMachineNow_10 : decode cX8_ofMachineNow 10 = .ok (.goto 24, 3) := dk_s2 (y := 0) (z := 24) dk_g167 (by decide +kernel) rfl
theorem dX8_ofMachineNow_13 : decode cX8_ofMachineNow 13 = .ok (.iload_n 2, 1) := dk_n (t := []) dk_g28 (by decide +kernel)
theorem dX8_ofMachineNow_14 : decode cX8_ofMachineNow 14 = .ok (.iconst 1, 1) := dk_n (t := []) dk_g4 (by decide +kernel)
theorem dX8_ofMachineNow_15 : decode cX8_ofMachineNow 15 = .ok (.if_icmp .ne 14, 3) := dk_s2 (y := 0) (z := 14) dk_g160 (by decide +kernel) rfl
theorem dX8_ofMachineNow_18 : decode cX8_ofMachineNow 18 = .ok (.aload_n 0, 1) := dk_n (t := []) dk_g42 (by decide +kernel)
theorem dX8_ofMachineNow_19 : decode cX8_ofMachineNow 19 = .ok (.iload_n 1, 1) := dk_n (t := []) dk_g27 (by decide +kernel)
theorem dX8_ofMachineNow_20 : decode cX8_ofMachineNow 20 = .ok (.invokevirtual 204, 3) := dk_u2 (y := 0) (z := 204) dk_g182 (by decide +kernel) rfl
theorem dX8_ofMachineNow_23 : decode cX8_ofMachineNow 23 = .ok (.invokestatic 118, 3) := dk_u2 (y := 0) (z := 118) dk_g184 (by decide +kernel) rfl
theorem dX8_ofMachineNow_26 : decode cX8_ofMachineNow 26 = .ok (.goto 8, 3) := dk_s2 (y := 0) (z := 8) dk_g167 (by decide +kernel) rfl
theorem dX8_ofMachineNow_29 : decode cX8_ofMachineNow 29 = .ok (.aload_n 0, 1) := dk_n (t := []) dk_g42 (by decide +kernel)
theorem dX8_ofMachineNow_30 : decode cX8_ofMachineNow 30 = .ok (.iload_n 1, 1) := dk_n (t := []) dk_g27 (by decide +kernel)
theorem dX8_ofMachineNow_31 : decode cX8_ofMachineNow 31 = .ok (.invokevirtual 204, 3) := dk_u2 (y := 0) (z := 204) dk_g182 (by decide +kernel) rfl
theorem dX8_ofMachineNow_34 : decode cX8_ofMachineNow 34 = .ok (.ireturn, 1) := dk_n (t := []) dk_g172 (by decide +kernel)
theorem dX8_ofMachine_0 : decode cX8_ofMachine 0 = .ok (.aload_n 0, 1) := dk_n (t := []) dk_g42 (by decide +kernel)
theorem dX8_ofMachine_1 : decode cX8_ofMachine 1 = .ok (.iconst 0, 1) := dk_n (t := []) dk_g3 (by decide +kernel)
theorem dX8_ofMachine_2 : decode cX8_ofMachine 2 = .ok (.putfield 41, 3) := dk_u2 (y := 0) (z := 41) dk_g181 (by decide +kernel) rfl
theorem dX8_ofMachine_5 : decode cX8_ofMachine 5 = .ok (.iload_n 1, 1) := dk_n (t := []) dk_g27 (by decide +kernel)
theorem dX8_ofMachine_6 : decode cX8_ofMachine 6 = .ok (.invokestatic 207, 3) := dk_u2 (y := 0) (z := 207) dk_g184 (by decide +kernel) rfl
theorem dX8_ofMachine_9 : decode cX8_ofMachine 9 = .ok (.ifCond .ne 9, 3) := dk_s2 (y := 0) (z := 9) dk_g154 (by decide +kernel) rfl
theorem dX8_ofMachine_12 : decode cX8_ofMachine 12 = .ok (.aload_n 0, 1) := dk_n (t := []) dk_g42 (by decide +kernel)
theorem dX8_ofMachine_13 : decode cX8_ofMachine 13 = .ok (.iconst 1, 1) := dk_n (t := []) dk_g4 (by decide +kernel)
theorem dX8_ofMachine_14 : decode cX8_ofMachine 14 = .ok (.invokevirtual 82, 3) := dk_u2 (y := 0) (z := 82) dk_g182 (by decide +kernel) rfl
theorem dX8_ofMachine_17 : decode cX8_ofMachine 17 = .ok (.ireturn, 1) := dk_n (t := []) dk_g172 (by decide +kernel)
theorem dX8_ofMachine_18 : decode cX8_ofMachine 18 = .ok (.iload_n 2, 1) := dk_n (t := []) dk_g28 (by decide +kernel)
theorem dX8_ofMachine_19 : decode cX8_ofMachine 19 = .ok (.iconst 0, 1) := dk_n (t := []) dk_g3 (by decide +kernel)
theorem dX8_ofMachine_20 : decode cX8_ofMachine 20 = .ok (.iconst 2, 1) := dk_n (t := []) dk_g5 (by decide +kernel)
theorem dX8_ofMachine_21 : decode cX8_ofMachine 21 = .ok (.invokestatic 48, 3) := dk_u2 (y := 0) (z := 48) dk_g184 (by decide +kernel) rfl
theorem dX8_ofMachine_24 : decode cX8_ofMachine 24 = .ok (.ifCond .eq 12, 3) := dk_s2 (y := 0) (z := 12) dk_g153 (by decide +kernel) rfl
theorem dX8_ofMachine_27 : decode cX8_ofMachine 27 = .ok (.aload_n 0, 1) := dk_n (t := []) dk_g42 (by decide +kernel)
theorem dX8_ofMachine_28 : decode cX8_ofMachine 28 = .ok (.iload_n 1, 1) := dk_n (t := []) dk_g27 (by decide +kernel)
theorem dX8_ofMachine_29 : decode cX8_ofMachine 29 = .ok (.iload_n 2, 1) := dk_n (t := []) dk_g28 (by decide +kernel)
theorem dX8_ofMachine_30 : decode cX8_ofMachine 30 = .ok (.invokevirtual 234, 3) := dk_u2 (y := 0) (z := 234) dk_g182 (by decide +kernel) rfl
theorem dX8_ofMachine_33 : decode cX8_ofMachine 33 = .ok (.goto 8, 3) := dk_s2 (y := 0) (z := 8) dk_g167 (by decide +kernel) rfl
theorem dX8_ofMachine_36 : decode cX8_ofMachine 36 = .ok (.aload_n 0, 1) := dk_n (t := []) dk_g42 (by decide +kernel)
theorem dX8_ofMachine_37 : decode cX8_ofMachine 37 = .ok (.iconst 2, 1) := dk_n (t := []) dk_g5 (by decide +kernel)
theorem dX8_ofMachine_38 : decode cX8_ofMachine 38 = .ok (.invokevirtual 82, 3) := dk_u2 (y := 0) (z := 82) dk_g182 (by decide +kernel) rfl
theorem dX8_ofMachine_41 : decode cX8_ofMachine 41 = .ok (.ireturn, 1) := dk_n (t := []) dk_g172 (by decide +kernel)
theorem dX8_has_0 : decode cX8_has 0 = .ok (.aload_n 0, 1) := dk_n (t := []) dk_g42 (by decide +kernel)
theorem dX8_has_1 : decode cX8_has 1 = .ok (.iconst 0, 1) := dk_n (t := []) dk_g3 (by decide +kernel)
theorem dX8_has_2 : decode cX8_has 2 = .ok (.putfield 41, 3) := dk_u2 (y := 0) (z := 41) dk_g181 (by decide +kernel) rfl
theorem dX8_has_5 : decode cX8_has 5 = .ok (.iload_n 1, 1) := dk_n (t := []) dk_g27 (by decide +kernel)
theorem dX8_has_6 : decode cX8_has 6 = .ok (.invokestatic 207, 3) := dk_u2 (y := 0) (z := 207) dk_g184 (by decide +kernel) rfl
theorem dX8_has_9 : decode cX8_has 9 = .ok (.ifCond .eq 24, 3) := dk_s2 (y := 0) (z := 24) dk_g153 (by decide +kernel) rfl
theorem dX8_has_12 : decode cX8_has 12 = .ok (.aload_n 0, 1) := dk_n (t := []) dk_g42 (by decide +kernel)
theorem dX8_has_13 : decode cX8_has 13 = .ok (.iload_n 2, 1) := dk_n (t := []) dk_g28 (by decide +kernel)
theorem dX8_has_14 : decode cX8_has 14 = .ok (.invokevirtual 86, 3) := dk_u2 (y := 0) (z := 86) dk_g182 (by decide +kernel) rfl
theorem dX8_has_17 : decode cX8_has 17 = .ok (.ifCond .eq 16, 3) := dk_s2 (y := 0) (z := 16) dk_g153 (by decide +kernel) rfl
theorem dX8_has_20 : decode cX8_has 20 = .ok (.aload_n 0, 1) := dk_n (t := []) dk_g42 (by decide +kernel)
theorem dX8_has_21 : decode cX8_has 21 = .ok (.getfield 29, 3) := dk_u2 (y := 0) (z := 29) dk_g180 (by decide +kernel) rfl
theorem dX8_has_24 : decode cX8_has 24 = .ok (.iload_n 1, 1) := dk_n (t := []) dk_g27 (by decide +kernel)
theorem dX8_has_25 : decode cX8_has 25 = .ok (.iconst 5, 1) := dk_n (t := []) dk_g8 (by decide +kernel)
theorem dX8_has_26 : decode cX8_has 26 = .ok (.imul, 1) := dk_n (t := []) dk_g104 (by decide +kernel)
theorem dX8_has_27 : decode cX8_has 27 = .ok (.iload_n 2, 1) := dk_n (t := []) dk_g28 (by decide +kernel)
theorem dX8_has_28 : decode cX8_has 28 = .ok (.iadd, 1) := dk_n (t := []) dk_g96 (by decide +kernel)
theorem dX8_has_29 : decode cX8_has 29 = .ok (.iaload, 1) := dk_n (t := []) dk_g46 (by decide +kernel)
theorem dX8_has_30 : decode cX8_has 30 = .ok (.goto 8, 3) := dk_s2 (y := 0) (z := 8) dk_g167 (by decide +kernel) rfl
theorem dX8_has_33 : decode cX8_has 33 = .ok (.aload_n 0, 1) := dk_n (t := []) dk_g42 (by decide +kernel)
theorem dX8_has_34 : decode cX8_has 34 = .ok (.iconst 1, 1) := dk_n (t := []) dk_g4 (by decide +kernel)
theorem dX8_has_35 : decode cX8_has 35 = .ok (.invokevirtual 82, 3) := dk_u2 (y := 0) (z := 82) dk_g182 (by decide +kernel) rfl
theorem dX8_has_38 : decode cX8_has 38 = .ok (.ireturn, 1) := dk_n (t := []) dk_g172 (by decide +kernel)
theorem dX8_ofCommit_0 : decode cX8_ofCommit 0 = .ok (.aload_n 0, 1) := dk_n (t := []) dk_g42 (by decide +kernel)
theorem dX8_ofCommit_1 : decode cX8_ofCommit 1 = .ok (.iconst 0, 1) := dk_n (t := []) dk_g3 (by decide +kernel)
theorem dX8_ofCommit_2 : decode cX8_ofCommit 2 = .ok (.putfield 41, 3) := dk_u2 (y := 0) (z := 41) dk_g181 (by decide +kernel) rfl
theorem dX8_ofCommit_5 : decode cX8_ofCommit 5 = .ok (.iload_n 1, 1) := dk_n (t := []) dk_g27 (by decide +kernel)
theorem dX8_ofCommit_6 : decode cX8_ofCommit 6 = .ok (.iconst 0, 1) := dk_n (t := []) dk_g3 (by decide +kernel)
theorem dX8_ofCommit_7 : decode cX8_ofCommit 7 = .ok (.aload_n 0, 1) := dk_n (t := []) dk_g42 (by decide +kernel)
theorem dX8_ofCommit_8 : decode cX8_ofCommit 8 = .ok (.getfield 23, 3) := dk_u2 (y := 0) (z := 23) dk_g180 (by decide +kernel) rfl
theorem dX8_ofCommit_11 : decode cX8_ofCommit 11 = .ok (.invokevirtual 52, 3) := dk_u2 (y := 0) (z := 52) dk_g182 (by decide +kernel) rfl
theorem dX8_ofCommit_14 : decode cX8_ofCommit 14 = .ok (.iconst 1, 1) := dk_n (t := []) dk_g4 (by decide +kernel)
theorem dX8_ofCommit_15 : decode cX8_ofCommit 15 = .ok (.isub, 1) := dk_n (t := []) dk_g100 (by decide +kernel)
theorem dX8_ofCommit_16 : decode cX8_ofCommit 16 = .ok (.invokestatic 48, 3) := dk_u2 (y := 0) (z := 48) dk_g184 (by decide +kernel) rfl
theorem dX8_ofCommit_19 : decode cX8_ofCommit 19 = .ok (.ifCond .eq 27, 3) := dk_s2 (y := 0) (z := 27) dk_g153 (by decide +kernel) rfl
theorem dX8_ofCommit_22 : decode cX8_ofCommit 22 = .ok (.aload_n 0, 1) := dk_n (t := []) dk_g42 (by decide +kernel)
theorem dX8_ofCommit_23 : decode cX8_ofCommit 23 = .ok (.iload_n 2, 1) := dk_n (t := []) dk_g28 (by decide +kernel)
theorem dX8_ofCommit_24 : decode cX8_ofCommit 24 = .ok (.invokevirtual 86, 3) := dk_u2 (y := 0) (z := 86) dk_g182 (by decide +kernel) rfl
theorem dX8_ofCommit_27 : decode cX8_ofCommit 27 = .ok (.ifCond .eq 19, 3) := dk_s2 (y := 0) (z := 19) dk_g153 (by decide +kernel) rfl
theorem dX8_ofCommit_30 : decode cX8_ofCommit 30 = .ok (.aload_n 0, 1) := dk_n (t := []) dk_g42 (by decide +kernel)
theorem dX8_ofCommit_31 : decode cX8_ofCommit 31 = .ok (.getfield 23, 3) := dk_u2 (y := 0) (z := 23) dk_g180 (by decide +kernel) rfl
theorem dX8_ofCommit_34 : decode cX8_ofCommit 34 = .ok (.iload_n 1, 1) := dk_n (t := []) dk_g27 (by decide +kernel)
theorem dX8_ofCommit_35 : decode cX8_ofCommit 35 = .ok (.invokevirtual 71, 3) := dk_u2 (y := 0) (z := 71) dk_g182 (by decide +kernel) rfl
theorem dX8_ofCommit_38 : decode cX8_ofCommit 38 = .ok (.checkcast 200, 3) := dk_u2 (y := 0) (z := 200) dk_g192 (by decide +kernel) rfl
theorem dX8_ofCommit_41 : decode cX8_ofCommit 41 = .ok (.iload_n 2, 1) := dk_n (t := []) dk_g28 (by decide +kernel)
theorem dX8_ofCommit_42 : decode cX8_ofCommit 42 = .ok (.iaload, 1) := dk_n (t := []) dk_g46 (by decide +kernel)
theorem dX8_ofCommit_43 : decode cX8_ofCommit 43 = .ok (.goto 8, 3) := dk_s2 (y := 0) (z := 8) dk_g167 (by decide +kernel) rfl
theorem dX8_ofCommit_46 : decode cX8_ofCommit 46 = .ok (.aload_n 0, 1) := dk_n (t := []) dk_g42 (by decide +kernel)
theorem dX8_ofCommit_47 : decode cX8_ofCommit 47 = .ok (.iconst 1, 1) := dk_n (t := []) dk_g4 (by decide +kernel)
theorem dX8_ofCommit_48 : decode cX8_ofCommit 48 = .ok (.invokevirtual 82, 3) := dk_u2 (y := 0) (z := 82) dk_g182 (by decide +kernel) rfl
theorem dX8_ofCommit_51 : decode cX8_ofCommit 51 = .ok (.ireturn, 1) := dk_n (t := []) dk_g172 (by decide +kernel)
theorem dX8_houseNow_0 : decode cX8_houseNow 0 = .ok (.iconst 0, 1) := dk_n (t := []) dk_g3 (by decide +kernel)
theorem dX8_houseNow_1 : decode cX8_houseNow 1 = .ok (.istore_n 2, 1) := dk_n (t := []) dk_g61 (by decide +kernel)
theorem dX8_houseNow_2 : decode cX8_houseNow 2 = .ok (.iload_n 1, 1) := dk_n (t := []) dk_g27 (by decide +kernel)
theorem dX8_houseNow_3 : decode cX8_houseNow 3 = .ok (.tableswitch 217 0 7 #[45, 50, 58, 108, 121, 161, 169, 201], 45) := by decide +kernel
theorem dX8_houseNow_48 : decode cX8_houseNow 48 = .ok (.aload_n 0, 1) := dk_n (t := []) dk_g42 (by decide +kernel)
theorem dX8_houseNow_49 : decode cX8_houseNow 49 = .ok (.getfield 45, 3) := dk_u2 (y := 0) (z := 45) dk_g180 (by decide +kernel) rfl
theorem dX8_houseNow_52 : decode cX8_houseNow 52 = .ok (.ireturn, 1) := dk_n (t := []) dk_g172 (by decide +kernel)
theorem dX8_houseNow_53 : decode cX8_houseNow 53 = .ok (.aload_n 0, 1) := dk_n (t := []) dk_g42 (by decide +kernel)
theorem dX8_houseNow_54 : decode cX8_houseNow 54 = .ok (.getfield 19, 3) := dk_u2 (y := 0) (z := 19) dk_g180 (by decide +kernel) rfl
theorem dX8_houseNow_57 : decode cX8_houseNow 57 = .ok (.invokevirtual 52, 3) := dk_u2 (y := 0) (z := 52) dk_g182 (by decide +kernel) rfl
theorem dX8_houseNow_60 : decode cX8_houseNow 60 = .ok (.ireturn, 1) := dk_n (t := []) dk_g172 (by decide +kernel)
theorem dX8_houseNow_61 : decode cX8_houseNow 61 = .ok (.aload_n 0, 1) := dk_n (t := []) dk_g42 (by decide +kernel)
theorem dX8_houseNow_62 : decode cX8_houseNow 62 = .ok (.getfield 19, 3) := dk_u2 (y := 0) (z := 19) dk_g180 (by decide +kernel) rfl
theorem dX8_houseNow_65 : decode cX8_houseNow 65 = .ok (.invokevirtual 237, 3) := dk_u2 (y := 0) (z := 237) dk_g182 (by decide +kernel) rfl
theorem dX8_houseNow_68 : decode cX8_houseNow 68 = .ok (.astore_n 3, 1) := dk_n (t := []) dk_g78 (by decide +kernel)
theorem dX8_houseNow_69 : decode cX8_houseNow 69 = .ok (.aload_n 3, 1) := dk_n (t := []) dk_g45 (by decide +kernel)
theorem dX8_houseNow_70 : decode cX8_houseNow 70 = .ok (.invokeinterface 241 1, 5) := by decide +kernel
theorem dX8_houseNow_75 : decode cX8_houseNow 75 = .ok (.ifCond .eq 34, 3) := dk_s2 (y := 0) (z := 34) dk_g153 (by decide +kernel) rfl
theorem dX8_houseNow_78 : decode cX8_houseNow 78 = .ok (.aload_n 3, 1) := dk_n (t := []) dk_g45 (by decide +kernel)
theorem dX8_houseNow_79 : decode cX8_houseNow 79 = .ok (.invokeinterface 246 1, 5) := by decide +kernel
theorem dX8_houseNow_84 : decode cX8_houseNow 84 = .ok (.checkcast 57, 3) := dk_u2 (y := 0) (z := 57) dk_g192 (by decide +kernel) rfl
theorem dX8_houseNow_87 : decode cX8_houseNow 87 = .ok (.astore 4, 2) := dk_u1 (y := 4) dk_g58 (by decide +kernel)
theorem dX8_houseNow_89 : decode cX8_houseNow 89 = .ok (.iload_n 2, 1) := dk_n (t := []) dk_g28 (by decide +kernel)
theorem dX8_houseNow_90 : decode cX8_houseNow 90 = .ok (.aload_n 0, 1) := dk_n (t := []) dk_g42 (by decide +kernel)
theorem dX8_houseNow_91 : decode cX8_houseNow 91 = .ok (.aload 4, 2) := dk_u1 (y := 4) dk_g25 (by decide +kernel)
theorem dX8_houseNow_93 : decode cX8_houseNow 93 = .ok (.invokevirtual 75, 3) := dk_u2 (y := 0) (z := 75) dk_g182 (by decide +kernel) rfl
theorem dX8_houseNow_96 : decode cX8_houseNow 96 = .ok (.ifCond .eq 7, 3) := dk_s2 (y := 0) (z := 7) dk_g153 (by decide +kernel) rfl
theorem dX8_houseNow_99 : decode cX8_houseNow 99 = .ok (.iconst 1, 1) := dk_n (t := []) dk_g4 (by decide +kernel)
theorem dX8_houseNow_100 : decode cX8_houseNow 100 = .ok (.goto 4, 3) := dk_s2 (y := 0) (z := 4) dk_g167 (by decide +kernel) rfl
theorem dX8_houseNow_103 : decode cX8_houseNow 103 = .ok (.iconst 0, 1) := dk_n (t := []) dk_g3 (by decide +kernel)
theorem dX8_houseNow_104 : decode cX8_houseNow 104 = .ok (.iadd, 1) := dk_n (t := []) dk_g96 (by decide +kernel)
theorem dX8_houseNow_105 : decode cX8_houseNow 105 = .ok (.istore_n 2, 1) := dk_n (t := []) dk_g61 (by decide +kernel)
theorem dX8_houseNow_106 : decode cX8_houseNow 106 = .ok (.goto (-37), 3) := dk_s2 (y := 255) (z := 219) dk_g167 (by decide +kernel) rfl
theorem dX8_houseNow_109 : decode cX8_houseNow 109 = .ok (.iload_n 2, 1) := dk_n (t := []) dk_g28 (by decide +kernel)
theorem dX8_houseNow_110 : decode cX8_houseNow 110 = .ok (.ireturn, 1) := dk_n (t := []) dk_g172 (by decide +kernel)
theorem dX8_houseNow_111 : decode cX8_houseNow 111 = .ok (.aload_n 0, 1) := dk_n (t := []) dk_g42 (by decide +kernel)
theorem dX8_houseNow_112 : decode cX8_houseNow 112 = .ok (.invokevirtual 196, 3) := dk_u2 (y := 0) (z := 196) dk_g182 (by decide +kernel) rfl
theorem dX8_houseNow_115 : decode cX8_houseNow 115 = .ok (.ifCond .eq 7, 3) := dk_s2 (y := 0) (z := 7) dk_g153 (by decide +kernel) rfl
theorem dX8_houseNow_118 : decode cX8_houseNow 118 = .ok (.iconst 1, 1) := dk_n (t := []) dk_g4 (by decide +kernel)
theorem dX8_houseNow_119 : decode cX8_houseNow 119 = .ok (.goto 4, 3) := dk_s2 (y := 0) (z := 4) dk_g167 (by decide +kernel) rfl
theorem dX8_houseNow_122 : decode cX8_houseNow 122 = .ok (.iconst 0, 1) := dk_n (t := []) dk_g3 (by decide +kernel)
theorem dX8_houseNow_123 : decode cX8_houseNow 123 = .ok (.ireturn, 1) := dk_n (t := []) dk_g172 (by decide +kernel)
theorem dX8_houseNow_124 : decode cX8_houseNow 124 = .ok (.aload_n 0, 1) := dk_n (t := []) dk_g42 (by decide +kernel)
theorem dX8_houseNow_125 : decode cX8_houseNow 125 = .ok (.invokevirtual 174, 3) := dk_u2 (y := 0) (z := 174) dk_g182 (by decide +kernel) rfl
theorem dX8_houseNow_128 : decode cX8_houseNow 128 = .ok (.iconst 0, 1) := dk_n (t := []) dk_g3 (by decide +kernel)
theorem dX8_houseNow_129 : decode cX8_houseNow 129 = .ok (.istore_n 3, 1) := dk_n (t := []) dk_g62 (by decide +kernel)
theorem dX8_houseNow_130 : decode cX8_houseNow 130 = .ok (.iload_n 3, 1) := dk_n (t := []) dk_g29 (by decide +kernel)
theorem dX8_houseNow_131 : decode cX8_houseNow 131 = .ok (.aload_n 0, 1) := dk_n (t := []) dk_g42 (by decide +kernel)
theorem dX8_houseNow_132 : decode cX8_houseNow 132 = .ok (.getfield 45, 3) := dk_u2 (y := 0) (z := 45) dk_g180 (by decide +kernel) rfl
theorem dX8_houseNow_135 : decode cX8_houseNow 135 = .ok (.if_icmp .ge 27, 3) := dk_s2 (y := 0) (z := 27) dk_g162 (by decide +kernel) rfl
theorem dX8_houseNow_138 : decode cX8_houseNow 138 = .ok (.iload_n 2, 1) := dk_n (t := []) dk_g28 (by decide +kernel)
theorem dX8_houseNow_139 : decode cX8_houseNow 139 = .ok (.aload_n 0, 1) := dk_n (t := []) dk_g42 (by decide +kernel)
theorem dX8_houseNow_140 : decode cX8_houseNow 140 = .ok (.iconst 0, 1) := dk_n (t := []) dk_g3 (by decide +kernel)
theorem dX8_houseNow_141 : decode cX8_houseNow 141 = .ok (.iload_n 3, 1) := dk_n (t := []) dk_g29 (by decide +kernel)
theorem dX8_houseNow_142 : decode cX8_houseNow 142 = .ok (.invokevirtual 157, 3) := dk_u2 (y := 0) (z := 157) dk_g182 (by decide +kernel) rfl
theorem dX8_houseNow_145 : decode cX8_houseNow 145 = .ok (.iconst 1, 1) := dk_n (t := []) dk_g4 (by decide +kernel)
theorem dX8_houseNow_146 : decode cX8_houseNow 146 = .ok (.if_icmp .ne 7, 3) := dk_s2 (y := 0) (z := 7) dk_g160 (by decide +kernel) rfl
theorem dX8_houseNow_149 : decode cX8_houseNow 149 = .ok (.iconst 1, 1) := dk_n (t := []) dk_g4 (by decide +kernel)
theorem dX8_houseNow_150 : decode cX8_houseNow 150 = .ok (.goto 4, 3) := dk_s2 (y := 0) (z := 4) dk_g167 (by decide +kernel) rfl
theorem dX8_houseNow_153 : decode cX8_houseNow 153 = .ok (.iconst 0, 1) := dk_n (t := []) dk_g3 (by decide +kernel)
theorem dX8_houseNow_154 : decode cX8_houseNow 154 = .ok (.iadd, 1) := dk_n (t := []) dk_g96 (by decide +kernel)
theorem dX8_houseNow_155 : decode cX8_houseNow 155 = .ok (.istore_n 2, 1) := dk_n (t := []) dk_g61 (by decide +kernel)
theorem dX8_houseNow_156 : decode cX8_houseNow 156 = .ok (.iinc 3 1, 3) := dk_ii (y := 3) (z := 1) dk_g132 (by decide +kernel) rfl
theorem dX8_houseNow_159 : decode cX8_houseNow 159 = .ok (.goto (-29), 3) := dk_s2 (y := 255) (z := 227) dk_g167 (by decide +kernel) rfl
theorem dX8_houseNow_162 : decode cX8_houseNow 162 = .ok (.iload_n 2, 1) := dk_n (t := []) dk_g28 (by decide +kernel)
theorem dX8_houseNow_163 : decode cX8_houseNow 163 = .ok (.ireturn, 1) := dk_n (t := []) dk_g172 (by decide +kernel)
theorem dX8_houseNow_164 : decode cX8_houseNow 164 = .ok (.aload_n 0, 1) := dk_n (t := []) dk_g42 (by decide +kernel)
theorem dX8_houseNow_165 : decode cX8_houseNow 165 = .ok (.getfield 23, 3) := dk_u2 (y := 0) (z := 23) dk_g180 (by decide +kernel) rfl
theorem dX8_houseNow_168 : decode cX8_houseNow 168 = .ok (.invokevirtual 52, 3) := dk_u2 (y := 0) (z := 52) dk_g182 (by decide +kernel) rfl
theorem dX8_houseNow_171 : decode cX8_houseNow 171 = .ok (.ireturn, 1) := dk_n (t := []) dk_g172 (by decide +kernel)
theorem dX8_houseNow_172 : decode cX8_houseNow 172 = .ok (.iconst 0, 1) := dk_n (t := []) dk_g3 (by decide +kernel)
theorem dX8_houseNow_173 : decode cX8_houseNow 173 = .ok (.istore_n 3, 1) := dk_n (t := []) dk_g62 (by decide +kernel)
theorem dX8_houseNow_174 : decode cX8_houseNow 174 = .ok (.iload_n 3, 1) := dk_n (t := []) dk_g29 (by decide +kernel)
theorem dX8_houseNow_175 : decode cX8_houseNow 175 = .ok (.bipush 6, 2) := dk_s1 (y := 6) dk_g16 (by decide +kernel) rfl
theorem dX8_houseNow_177 : decode cX8_houseNow 177 = .ok (.if_icmp .ge 25, 3) := dk_s2 (y := 0) (z := 25) dk_g162 (by decide +kernel) rfl
theorem dX8_houseNow_180 : decode cX8_houseNow 180 = .ok (.iload_n 2, 1) := dk_n (t := []) dk_g28 (by decide +kernel)
theorem dX8_houseNow_181 : decode cX8_houseNow 181 = .ok (.aload_n 0, 1) := dk_n (t := []) dk_g42 (by decide +kernel)
theorem dX8_houseNow_182 : decode cX8_houseNow 182 = .ok (.iload_n 3, 1) := dk_n (t := []) dk_g29 (by decide +kernel)
theorem dX8_houseNow_183 : decode cX8_houseNow 183 = .ok (.invokevirtual 204, 3) := dk_u2 (y := 0) (z := 204) dk_g182 (by decide +kernel) rfl
theorem dX8_houseNow_186 : decode cX8_houseNow 186 = .ok (.ifCond .eq 7, 3) := dk_s2 (y := 0) (z := 7) dk_g153 (by decide +kernel) rfl
theorem dX8_houseNow_189 : decode cX8_houseNow 189 = .ok (.iconst 1, 1) := dk_n (t := []) dk_g4 (by decide +kernel)
theorem dX8_houseNow_190 : decode cX8_houseNow 190 = .ok (.goto 4, 3) := dk_s2 (y := 0) (z := 4) dk_g167 (by decide +kernel) rfl
theorem dX8_houseNow_193 : decode cX8_houseNow 193 = .ok (.iconst 0, 1) := dk_n (t := []) dk_g3 (by decide +kernel)
theorem dX8_houseNow_194 : decode cX8_houseNow 194 = .ok (.iadd, 1) := dk_n (t := []) dk_g96 (by decide +kernel)
theorem dX8_houseNow_195 : decode cX8_houseNow 195 = .ok (.istore_n 2, 1) := dk_n (t := []) dk_g61 (by decide +kernel)
theorem dX8_houseNow_196 : decode cX8_houseNow 196 = .ok (.iinc 3 1, 3) := dk_ii (y := 3) (z := 1) dk_g132 (by decide +kernel) rfl
theorem dX8_houseNow_199 : decode cX8_houseNow 199 = .ok (.goto (-25), 3) := dk_s2 (y := 255) (z := 231) dk_g167 (by decide +kernel) rfl
theorem dX8_houseNow_202 : decode cX8_houseNow 202 = .ok (.iload_n 2, 1) := dk_n (t := []) dk_g28 (by decide +kernel)
theorem dX8_houseNow_203 : decode cX8_houseNow 203 = .ok (.ireturn, 1) := dk_n (t := []) dk_g172 (by decide +kernel)
theorem dX8_houseNow_204 : decode cX8_houseNow 204 = .ok (.aload_n 0, 1) := dk_n (t := []) dk_g42 (by decide +kernel)
theorem dX8_houseNow_205 : decode cX8_houseNow 205 = .ok (.invokevirtual 219, 3) := dk_u2 (y := 0) (z := 219) dk_g182 (by decide +kernel) rfl
theorem dX8_houseNow_208 : decode cX8_houseNow 208 = .ok (.ifCond .eq 10, 3) := dk_s2 (y := 0) (z := 10) dk_g153 (by decide +kernel) rfl
theorem dX8_houseNow_211 : decode cX8_houseNow 211 = .ok (.aload_n 0, 1) := dk_n (t := []) dk_g42 (by decide +kernel)
theorem dX8_houseNow_212 : decode cX8_houseNow 212 = .ok (.getfield 183, 3) := dk_u2 (y := 0) (z := 183) dk_g180 (by decide +kernel) rfl
theorem dX8_houseNow_215 : decode cX8_houseNow 215 = .ok (.goto 4, 3) := dk_s2 (y := 0) (z := 4) dk_g167 (by decide +kernel) rfl
theorem dX8_houseNow_218 : decode cX8_houseNow 218 = .ok (.iconst (-1), 1) := dk_n (t := []) dk_g2 (by decide +kernel)
theorem dX8_houseNow_219 : decode cX8_houseNow 219 = .ok (.ireturn, 1) := dk_n (t := []) dk_g172 (by decide +kernel)
theorem dX8_houseNow_220 : decode cX8_houseNow 220 = .ok (.aload_n 0, 1) := dk_n (t := []) dk_g42 (by decide +kernel)
theorem dX8_houseNow_221 : decode cX8_houseNow 221 = .ok (.getfield 210, 3) := dk_u2 (y := 0) (z := 210) dk_g180 (by decide +kernel) rfl
theorem dX8_houseNow_224 : decode cX8_houseNow 224 = .ok (.ireturn, 1) := dk_n (t := []) dk_g172 (by decide +kernel)
theorem dX8_house_0 : decode cX8_house 0 = .ok (.aload_n 0, 1) := dk_n (t := []) dk_g42 (by decide +kernel)
theorem dX8_house_1 : decode cX8_house 1 = .ok (.iconst 0, 1) := dk_n (t := []) dk_g3 (by decide +kernel)
theorem dX8_house_2 : decode cX8_house 2 = .ok (.putfield 41, 3) := dk_u2 (y := 0) (z := 41) dk_g181 (by decide +kernel) rfl
theorem dX8_house_5 : decode cX8_house 5 = .ok (.iload_n 1, 1) := dk_n (t := []) dk_g27 (by decide +kernel)
theorem dX8_house_6 : decode cX8_house 6 = .ok (.iconst 0, 1) := dk_n (t := []) dk_g3 (by decide +kernel)
theorem dX8_house_7 : decode cX8_house 7 = .ok (.bipush 8, 2) := dk_s1 (y := 8) dk_g16 (by decide +kernel) rfl
theorem dX8_house_9 : decode cX8_house 9 = .ok (.invokestatic 48, 3) := dk_u2 (y := 0) (z := 48) dk_g184 (by decide +kernel) rfl
theorem dX8_house_12 : decode cX8_house 12 = .ok (.ifCond .eq 11, 3) := dk_s2 (y := 0) (z := 11) dk_g153 (by decide +kernel) rfl
theorem dX8_house_15 : decode cX8_house 15 = .ok (.aload_n 0, 1) := dk_n (t := []) dk_g42 (by decide +kernel)
theorem dX8_house_16 : decode cX8_house 16 = .ok (.iload_n 1, 1) := dk_n (t := []) dk_g27 (by decide +kernel)
theorem dX8_house_17 : decode cX8_house 17 = .ok (.invokevirtual 250, 3) := dk_u2 (y := 0) (z := 250) dk_g182 (by decide +kernel) rfl
theorem dX8_house_20 : decode cX8_house 20 = .ok (.goto 8, 3) := dk_s2 (y := 0) (z := 8) dk_g167 (by decide +kernel) rfl
theorem dX8_house_23 : decode cX8_house 23 = .ok (.aload_n 0, 1) := dk_n (t := []) dk_g42 (by decide +kernel)
theorem dX8_house_24 : decode cX8_house 24 = .ok (.iconst 1, 1) := dk_n (t := []) dk_g4 (by decide +kernel)
theorem dX8_house_25 : decode cX8_house 25 = .ok (.invokevirtual 82, 3) := dk_u2 (y := 0) (z := 82) dk_g182 (by decide +kernel) rfl
theorem dX8_house_28 : decode cX8_house 28 = .ok (.ireturn, 1) := dk_n (t := []) dk_g172 (by decide +kernel)
theorem dX8_value_0 : decode cX8_value 0 = .ok (.aload_n 0, 1) := dk_n (t := []) dk_g42 (by decide +kernel)
theorem dX8_value_1 : decode cX8_value 1 = .ok (.aload_n 0, 1) := dk_n (t := []) dk_g42 (by decide +kernel)
theorem dX8_value_2 : decode cX8_value 2 = .ok (.iload_n 1, 1) := dk_n (t := []) dk_g27 (by decide +kernel)
theorem dX8_value_3 : decode cX8_value 3 = .ok (.invokevirtual 86, 3) := dk_u2 (y := 0) (z := 86) dk_g182 (by decide +kernel) rfl
theorem dX8_value_6 : decode cX8_value 6 = .ok (.ifCond .eq 7, 3) := dk_s2 (y := 0) (z := 7) dk_g153 (by decide +kernel) rfl
theorem dX8_value_9 : decode cX8_value 9 = .ok (.iconst 0, 1) := dk_n (t := []) dk_g3 (by decide +kernel)
theorem dX8_value_10 : decode cX8_value 10 = .ok (.goto 4, 3) := dk_s2 (y := 0) (z := 4) dk_g167 (by decide +kernel) rfl
theorem dX8_value_13 : decode cX8_value 13 = .ok (.iconst 1, 1) := dk_n (t := []) dk_g4 (by decide +kernel)
theorem dX8_value_14 : decode cX8_value 14 = .ok (.putfield 41, 3) := dk_u2 (y := 0) (z := 41) dk_g181 (by decide +kernel) rfl
theorem dX8_value_17 : decode cX8_value 17 = .ok (.aload_n 0, 1) := dk_n (t := []) dk_g42 (by decide +kernel)
theorem dX8_value_18 : decode cX8_value 18 = .ok (.getfield 41, 3) := dk_u2 (y := 0) (z := 41) dk_g180 (by decide +kernel) rfl
theorem dX8_value_21 : decode cX8_value 21 = .ok (.ifCond .le 6, 3) := dk_s2 (y := 0) (z := 6) dk_g158 (by decide +kernel) rfl
theorem dX8_value_24 : decode cX8_value 24 = .ok (.ldc 253, 2) := dk_u1 (y := 253) dk_g18 (by decide +kernel)
theorem dX8_value_26 : decode cX8_value 26 = .ok (.areturn, 1) := dk_n (t := []) dk_g176 (by decide +kernel)
theorem dX8_value_27 : decode cX8_value 27 = .ok (.aload_n 0, 1) := dk_n (t := []) dk_g42 (by decide +kernel)
theorem dX8_value_28 : decode cX8_value 28 = .ok (.iload_n 1, 1) := dk_n (t := []) dk_g27 (by decide +kernel)
theorem dX8_value_29 : decode cX8_value 29 = .ok (.invokevirtual 213, 3) := dk_u2 (y := 0) (z := 213) dk_g182 (by decide +kernel) rfl
theorem dX8_value_32 : decode cX8_value 32 = .ok (.istore_n 2, 1) := dk_n (t := []) dk_g61 (by decide +kernel)
theorem dX8_value_33 : decode cX8_value 33 = .ok (.new 255, 3) := dk_u2 (y := 0) (z := 255) dk_g187 (by decide +kernel) rfl
theorem dX8_value_36 : decode cX8_value 36 = .ok (.dup, 1) := dk_n (t := []) dk_g89 (by decide +kernel)
theorem dX8_value_37 : decode cX8_value 37 = .ok (.iload_n 2, 1) := dk_n (t := []) dk_g28 (by decide +kernel)
theorem dX8_value_38 : decode cX8_value 38 = .ok (.ifCond .ne 9, 3) := dk_s2 (y := 0) (z := 9) dk_g154 (by decide +kernel) rfl
theorem dX8_value_41 : decode cX8_value 41 = .ok (.ldc_w 257, 3) := dk_u2 (y := 1) (z := 1) dk_g19 (by decide +kernel) rfl
theorem dX8_value_44 : decode cX8_value 44 = .ok (.goto 5, 3) := dk_s2 (y := 0) (z := 5) dk_g167 (by decide +kernel) rfl
theorem dX8_value_47 : decode cX8_value 47 = .ok (.ldc 253, 2) := dk_u1 (y := 253) dk_g18 (by decide +kernel)
theorem dX8_value_49 : decode cX8_value 49 = .ok (.invokespecial 259, 3) := dk_u2 (y := 1) (z := 3) dk_g183 (by decide +kernel) rfl
theorem dX8_value_52 : decode cX8_value 52 = .ok (.astore_n 3, 1) := dk_n (t := []) dk_g78 (by decide +kernel)
theorem dX8_value_53 : decode cX8_value 53 = .ok (.iconst 0, 1) := dk_n (t := []) dk_g3 (by decide +kernel)
theorem dX8_value_54 : decode cX8_value 54 = .ok (.istore 4, 2) := dk_u1 (y := 4) dk_g54 (by decide +kernel)
theorem dX8_value_56 : decode cX8_value 56 = .ok (.iload 4, 2) := dk_u1 (y := 4) dk_g21 (by decide +kernel)
theorem dX8_value_58 : decode cX8_value 58 = .ok (.bipush 8, 2) := dk_s1 (y := 8) dk_g16 (by decide +kernel) rfl
theorem dX8_value_60 : decode cX8_value 60 = .ok (.if_icmp .ge 26, 3) := dk_s2 (y := 0) (z := 26) dk_g162 (by decide +kernel) rfl
theorem dX8_value_63 : decode cX8_value 63 = .ok (.iload_n 2, 1) := dk_n (t := []) dk_g28 (by decide +kernel)
theorem dX8_value_64 : decode cX8_value 64 = .ok (.iload 4, 2) := dk_u1 (y := 4) dk_g21 (by decide +kernel)
theorem dX8_value_66 : decode cX8_value 66 = .ok (.ishr, 1) := dk_n (t := []) dk_g122 (by decide +kernel)
theorem dX8_value_67 : decode cX8_value 67 = .ok (.iconst 1, 1) := dk_n (t := []) dk_g4 (by decide +kernel)
theorem dX8_value_68 : decode cX8_value 68 = .ok (.iand, 1) := dk_n (t := []) dk_g126 (by decide +kernel)
theorem dX8_value_69 : decode cX8_value 69 = .ok (.iconst 1, 1) := dk_n (t := []) dk_g4 (by decide +kernel)
theorem dX8_value_70 : decode cX8_value 70 = .ok (.if_icmp .ne 10, 3) := dk_s2 (y := 0) (z := 10) dk_g160 (by decide +kernel) rfl
theorem dX8_value_73 : decode cX8_value 73 = .ok (.aload_n 3, 1) := dk_n (t := []) dk_g45 (by decide +kernel)
theorem dX8_value_74 : decode cX8_value 74 = .ok (.iload 4, 2) := dk_u1 (y := 4) dk_g21 (by decide +kernel)
theorem dX8_value_76 : decode cX8_value 76 = .ok (.invokevirtual 262, 3) := dk_u2 (y := 1) (z := 6) dk_g182 (by decide +kernel) rfl
theorem dX8_value_79 : decode cX8_value 79 = .ok (.pop, 1) := dk_n (t := []) dk_g87 (by decide +kernel)
theorem dX8_value_80 : decode cX8_value 80 = .ok (.iinc 4 1, 3) := dk_ii (y := 4) (z := 1) dk_g132 (by decide +kernel) rfl
theorem dX8_value_83 : decode cX8_value 83 = .ok (.goto (-27), 3) := dk_s2 (y := 255) (z := 229) dk_g167 (by decide +kernel) rfl
theorem dX8_value_86 : decode cX8_value 86 = .ok (.aload_n 0, 1) := dk_n (t := []) dk_g42 (by decide +kernel)
theorem dX8_value_87 : decode cX8_value 87 = .ok (.iload_n 1, 1) := dk_n (t := []) dk_g27 (by decide +kernel)
theorem dX8_value_88 : decode cX8_value 88 = .ok (.invokevirtual 216, 3) := dk_u2 (y := 0) (z := 216) dk_g182 (by decide +kernel) rfl
theorem dX8_value_91 : decode cX8_value 91 = .ok (.istore 4, 2) := dk_u1 (y := 4) dk_g54 (by decide +kernel)
theorem dX8_value_93 : decode cX8_value 93 = .ok (.iload 4, 2) := dk_u1 (y := 4) dk_g21 (by decide +kernel)
theorem dX8_value_95 : decode cX8_value 95 = .ok (.iconst (-1), 1) := dk_n (t := []) dk_g2 (by decide +kernel)
theorem dX8_value_96 : decode cX8_value 96 = .ok (.if_icmp .eq 15, 3) := dk_s2 (y := 0) (z := 15) dk_g159 (by decide +kernel) rfl
theorem dX8_value_99 : decode cX8_value 99 = .ok (.aload_n 3, 1) := dk_n (t := []) dk_g45 (by decide +kernel)
theorem dX8_value_100 : decode cX8_value 100 = .ok (.bipush 61, 2) := dk_s1 (y := 61) dk_g16 (by decide +kernel) rfl
theorem dX8_value_102 : decode cX8_value 102 = .ok (.invokevirtual 266, 3) := dk_u2 (y := 1) (z := 10) dk_g182 (by decide +kernel) rfl
theorem dX8_value_105 : decode cX8_value 105 = .ok (.iload 4, 2) := dk_u1 (y := 4) dk_g21 (by decide +kernel)
theorem dX8_value_107 : decode cX8_value 107 = .ok (.invokevirtual 262, 3) := dk_u2 (y := 1) (z := 6) dk_g182 (by decide +kernel) rfl
theorem dX8_value_110 : decode cX8_value 110 = .ok (.pop, 1) := dk_n (t := []) dk_g87 (by decide +kernel)
theorem dX8_value_111 : decode cX8_value 111 = .ok (.aload_n 3, 1) := dk_n (t := []) dk_g45 (by decide +kernel)
theorem dX8_value_112 : decode cX8_value 112 = .ok (.invokevirtual 269, 3) := dk_u2 (y := 1) (z := 13) dk_g182 (by decide +kernel) rfl
theorem dX8_value_115 : decode cX8_value 115 = .ok (.areturn, 1) := dk_n (t := []) dk_g176 (by decide +kernel)
theorem dX8_reason_0 : decode cX8_reason 0 = .ok (.aload_n 0, 1) := dk_n (t := []) dk_g42 (by decide +kernel)
theorem dX8_reason_1 : decode cX8_reason 1 = .ok (.iconst 0, 1) := dk_n (t := []) dk_g3 (by decide +kernel)
theorem dX8_reason_2 : decode cX8_reason 2 = .ok (.putfield 41, 3) := dk_u2 (y := 0) (z := 41) dk_g181 (by decide +kernel) rfl
theorem dX8_reason_5 : decode cX8_reason 5 = .ok (.iload_n 1, 1) := dk_n (t := []) dk_g27 (by decide +kernel)
theorem dX8_reason_6 : decode cX8_reason 6 = .ok (.iconst (-1), 1) := dk_n (t := []) dk_g2 (by decide +kernel)
theorem dX8_reason_7 : decode cX8_reason 7 = .ok (.if_icmp .eq 11, 3) := dk_s2 (y := 0) (z := 11) dk_g159 (by decide +kernel) rfl
theorem dX8_reason_10 : decode cX8_reason 10 = .ok (.aload_n 0, 1) := dk_n (t := []) dk_g42 (by decide +kernel)
theorem dX8_reason_11 : decode cX8_reason 11 = .ok (.iload_n 1, 1) := dk_n (t := []) dk_g27 (by decide +kernel)
theorem dX8_reason_12 : decode cX8_reason 12 = .ok (.invokevirtual 86, 3) := dk_u2 (y := 0) (z := 86) dk_g182 (by decide +kernel) rfl
theorem dX8_reason_15 : decode cX8_reason 15 = .ok (.ifCond .eq 11, 3) := dk_s2 (y := 0) (z := 11) dk_g153 (by decide +kernel) rfl
theorem dX8_reason_18 : decode cX8_reason 18 = .ok (.aload_n 0, 1) := dk_n (t := []) dk_g42 (by decide +kernel)
theorem dX8_reason_19 : decode cX8_reason 19 = .ok (.iload_n 1, 1) := dk_n (t := []) dk_g27 (by decide +kernel)
theorem dX8_reason_20 : decode cX8_reason 20 = .ok (.invokevirtual 228, 3) := dk_u2 (y := 0) (z := 228) dk_g182 (by decide +kernel) rfl
theorem dX8_reason_23 : decode cX8_reason 23 = .ok (.goto 8, 3) := dk_s2 (y := 0) (z := 8) dk_g167 (by decide +kernel) rfl
theorem dX8_reason_26 : decode cX8_reason 26 = .ok (.aload_n 0, 1) := dk_n (t := []) dk_g42 (by decide +kernel)
theorem dX8_reason_27 : decode cX8_reason 27 = .ok (.iconst 1, 1) := dk_n (t := []) dk_g4 (by decide +kernel)
theorem dX8_reason_28 : decode cX8_reason 28 = .ok (.invokevirtual 82, 3) := dk_u2 (y := 0) (z := 82) dk_g182 (by decide +kernel) rfl
theorem dX8_reason_31 : decode cX8_reason 31 = .ok (.ireturn, 1) := dk_n (t := []) dk_g172 (by decide +kernel)
theorem dX8_met_0 : decode cX8_met 0 = .ok (.aload_n 0, 1) := dk_n (t := []) dk_g42 (by decide +kernel)
theorem dX8_met_1 : decode cX8_met 1 = .ok (.iconst 0, 1) := dk_n (t := []) dk_g3 (by decide +kernel)
theorem dX8_met_2 : decode cX8_met 2 = .ok (.putfield 41, 3) := dk_u2 (y := 0) (z := 41) dk_g181 (by decide +kernel) rfl
theorem dX8_met_5 : decode cX8_met 5 = .ok (.aload_n 0, 1) := dk_n (t := []) dk_g42 (by decide +kernel)
theorem dX8_met_6 : decode cX8_met 6 = .ok (.iload_n 2, 1) := dk_n (t := []) dk_g28 (by decide +kernel)
theorem dX8_met_7 : decode cX8_met 7 = .ok (.invokevirtual 86, 3) := dk_u2 (y := 0) (z := 86) dk_g182 (by decide +kernel) rfl
theorem dX8_met_10 : decode cX8_met 10 = .ok (.ifCond .ne 9, 3) := dk_s2 (y := 0) (z := 9) dk_g154 (by decide +kernel) rfl
theorem dX8_met_13 : decode cX8_met 13 = .ok (.aload_n 0, 1) := dk_n (t := []) dk_g42 (by decide +kernel)
theorem dX8_met_14 : decode cX8_met 14 = .ok (.iconst 1, 1) := dk_n (t := []) dk_g4 (by decide +kernel)
theorem dX8_met_15 : decode cX8_met 15 = .ok (.invokevirtual 82, 3) := dk_u2 (y := 0) (z := 82) dk_g182 (by decide +kernel) rfl
theorem dX8_met_18 : decode cX8_met 18 = .ok (.ireturn, 1) := dk_n (t := []) dk_g172 (by decide +kernel)
theorem dX8_met_19 : decode cX8_met 19 = .ok (.iload_n 1, 1) := dk_n (t := []) dk_g27 (by decide +kernel)
theorem dX8_met_20 : decode cX8_met 20 = .ok (.ifCond .lt 15, 3) := dk_s2 (y := 0) (z := 15) dk_g155 (by decide +kernel) rfl
theorem dX8_met_23 : decode cX8_met 23 = .ok (.iload_n 1, 1) := dk_n (t := []) dk_g27 (by decide +kernel)
theorem dX8_met_24 : decode cX8_met 24 = .ok (.aload_n 0, 1) := dk_n (t := []) dk_g42 (by decide +kernel)
theorem dX8_met_25 : decode cX8_met 25 = .ok (.getfield 19, 3) := dk_u2 (y := 0) (z := 19) dk_g180 (by decide +kernel) rfl
theorem dX8_met_28 : decode cX8_met 28 = .ok (.invokevirtual 52, 3) := dk_u2 (y := 0) (z := 52) dk_g182 (by decide +kernel) rfl
theorem dX8_met_31 : decode cX8_met 31 = .ok (.ishr, 1) := dk_n (t := []) dk_g122 (by decide +kernel)
theorem dX8_met_32 : decode cX8_met 32 = .ok (.ifCond .eq 9, 3) := dk_s2 (y := 0) (z := 9) dk_g153 (by decide +kernel) rfl
theorem dX8_met_35 : decode cX8_met 35 = .ok (.aload_n 0, 1) := dk_n (t := []) dk_g42 (by decide +kernel)
theorem dX8_met_36 : decode cX8_met 36 = .ok (.iconst 2, 1) := dk_n (t := []) dk_g5 (by decide +kernel)
theorem dX8_met_37 : decode cX8_met 37 = .ok (.invokevirtual 82, 3) := dk_u2 (y := 0) (z := 82) dk_g182 (by decide +kernel) rfl
theorem dX8_met_40 : decode cX8_met 40 = .ok (.ireturn, 1) := dk_n (t := []) dk_g172 (by decide +kernel)
theorem dX8_met_41 : decode cX8_met 41 = .ok (.aload_n 0, 1) := dk_n (t := []) dk_g42 (by decide +kernel)
theorem dX8_met_42 : decode cX8_met 42 = .ok (.iconst 0, 1) := dk_n (t := []) dk_g3 (by decide +kernel)
theorem dX8_met_43 : decode cX8_met 43 = .ok (.iload_n 1, 1) := dk_n (t := []) dk_g27 (by decide +kernel)
theorem dX8_met_44 : decode cX8_met 44 = .ok (.invokevirtual 154, 3) := dk_u2 (y := 0) (z := 154) dk_g182 (by decide +kernel) rfl
theorem dX8_met_47 : decode cX8_met 47 = .ok (.pop, 1) := dk_n (t := []) dk_g87 (by decide +kernel)
theorem dX8_met_48 : decode cX8_met 48 = .ok (.aload_n 0, 1) := dk_n (t := []) dk_g42 (by decide +kernel)
theorem dX8_met_49 : decode cX8_met 49 = .ok (.iconst 0, 1) := dk_n (t := []) dk_g3 (by decide +kernel)
theorem dX8_met_50 : decode cX8_met 50 = .ok (.iload_n 2, 1) := dk_n (t := []) dk_g28 (by decide +kernel)
theorem dX8_met_51 : decode cX8_met 51 = .ok (.invokevirtual 114, 3) := dk_u2 (y := 0) (z := 114) dk_g182 (by decide +kernel) rfl
theorem dX8_met_54 : decode cX8_met 54 = .ok (.ireturn, 1) := dk_n (t := []) dk_g172 (by decide +kernel)
theorem dX8_choices_0 : decode cX8_choices 0 = .ok (.aload_n 0, 1) := dk_n (t := []) dk_g42 (by decide +kernel)
theorem dX8_choices_1 : decode cX8_choices 1 = .ok (.iconst 0, 1) := dk_n (t := []) dk_g3 (by decide +kernel)
theorem dX8_choices_2 : decode cX8_choices 2 = .ok (.putfield 41, 3) := dk_u2 (y := 0) (z := 41) dk_g181 (by decide +kernel) rfl
theorem dX8_choices_5 : decode cX8_choices 5 = .ok (.aload_n 0, 1) := dk_n (t := []) dk_g42 (by decide +kernel)
theorem dX8_choices_6 : decode cX8_choices 6 = .ok (.iload_n 1, 1) := dk_n (t := []) dk_g27 (by decide +kernel)
theorem dX8_choices_7 : decode cX8_choices 7 = .ok (.invokevirtual 86, 3) := dk_u2 (y := 0) (z := 86) dk_g182 (by decide +kernel) rfl
theorem dX8_choices_10 : decode cX8_choices 10 = .ok (.ifCond .ne 9, 3) := dk_s2 (y := 0) (z := 9) dk_g154 (by decide +kernel) rfl
theorem dX8_choices_13 : decode cX8_choices 13 = .ok (.aload_n 0, 1) := dk_n (t := []) dk_g42 (by decide +kernel)
theorem dX8_choices_14 : decode cX8_choices 14 = .ok (.iconst 1, 1) := dk_n (t := []) dk_g4 (by decide +kernel)
theorem dX8_choices_15 : decode cX8_choices 15 = .ok (.invokevirtual 82, 3) := dk_u2 (y := 0) (z := 82) dk_g182 (by decide +kernel) rfl
theorem dX8_choices_18 : decode cX8_choices 18 = .ok (.ireturn, 1) := dk_n (t := []) dk_g172 (by decide +kernel)
theorem dX8_choices_19 : decode cX8_choices 19 = .ok (.iload_n 2, 1) := dk_n (t := []) dk_g28 (by decide +kernel)
theorem dX8_choices_20 : decode cX8_choices 20 = .ok (.iconst 0, 1) := dk_n (t := []) dk_g3 (by decide +kernel)
theorem dX8_choices_21 : decode cX8_choices 21 = .ok (.bipush 7, 2) := dk_s1 (y := 7) dk_g16 (by decide +kernel) rfl
theorem dX8_choices_23 : decode cX8_choices 23 = .ok (.invokestatic 48, 3) := dk_u2 (y := 0) (z := 48) dk_g184 (by decide +kernel) rfl
theorem dX8_choices_26 : decode cX8_choices 26 = .ok (.ifCond .ne 9, 3) := dk_s2 (y := 0) (z := 9) dk_g154 (by decide +kernel) rfl
theorem dX8_choices_29 : decode cX8_choices 29 = .ok (.aload_n 0, 1) := dk_n (t := []) dk_g42 (by decide +kernel)
theorem dX8_choices_30 : decode cX8_choices 30 = .ok (.iconst 2, 1) := dk_n (t := []) dk_g5 (by decide +kernel)
theorem dX8_choices_31 : decode cX8_choices 31 = .ok (.invokevirtual 82, 3) := dk_u2 (y := 0) (z := 82) dk_g182 (by decide +kernel) rfl
theorem dX8_choices_34 : decode cX8_choices 34 = .ok (.ireturn, 1) := dk_n (t := []) dk_g172 (by decide +kernel)
theorem dX8_choices_35 : decode cX8_choices 35 = .ok (.aload_n 0, 1) := dk_n (t := []) dk_g42 (by decide +kernel)
theorem dX8_choices_36 : decode cX8_choices 36 = .ok (.invokevirtual 151, 3) := dk_u2 (y := 0) (z := 151) dk_g182 (by decide +kernel) rfl
theorem dX8_choices_39 : decode cX8_choices 39 = .ok (.istore_n 3, 1) := dk_n (t := []) dk_g62 (by decide +kernel)
theorem dX8_choices_40 : decode cX8_choices 40 = .ok (.aload_n 0, 1) := dk_n (t := []) dk_g42 (by decide +kernel)
theorem dX8_choices_41 : decode cX8_choices 41 = .ok (.iconst 1, 1) := dk_n (t := []) dk_g4 (by decide +kernel)
theorem dX8_choices_42 : decode cX8_choices 42 = .ok (.invokevirtual 140, 3) := dk_u2 (y := 0) (z := 140) dk_g182 (by decide +kernel) rfl
theorem dX8_choices_45 : decode cX8_choices 45 = .ok (.aload_n 0, 1) := dk_n (t := []) dk_g42 (by decide +kernel)
theorem dX8_choices_46 : decode cX8_choices 46 = .ok (.iconst 1, 1) := dk_n (t := []) dk_g4 (by decide +kernel)
theorem dX8_choices_47 : decode cX8_choices 47 = .ok (.iload_n 1, 1) := dk_n (t := []) dk_g27 (by decide +kernel)
theorem dX8_choices_48 : decode cX8_choices 48 = .ok (.iload_n 2, 1) := dk_n (t := []) dk_g28 (by decide +kernel)
theorem dX8_choices_49 : decode cX8_choices 49 = .ok (.invokevirtual 170, 3) := dk_u2 (y := 0) (z := 170) dk_g182 (by decide +kernel) rfl
theorem dX8_choices_52 : decode cX8_choices 52 = .ok (.aload_n 0, 1) := dk_n (t := []) dk_g42 (by decide +kernel)
theorem dX8_choices_53 : decode cX8_choices 53 = .ok (.iconst 1, 1) := dk_n (t := []) dk_g4 (by decide +kernel)
theorem dX8_choices_54 : decode cX8_choices 54 = .ok (.iload_n 3, 1) := dk_n (t := []) dk_g29 (by decide +kernel)
theorem dX8_choices_55 : decode cX8_choices 55 = .ok (.invokevirtual 144, 3) := dk_u2 (y := 0) (z := 144) dk_g182 (by decide +kernel) rfl
theorem dX8_choices_58 : decode cX8_choices 58 = .ok (.ifCond .eq 7, 3) := dk_s2 (y := 0) (z := 7) dk_g153 (by decide +kernel) rfl
theorem dX8_choices_61 : decode cX8_choices 61 = .ok (.iconst 0, 1) := dk_n (t := []) dk_g3 (by decide +kernel)
theorem dX8_choices_62 : decode cX8_choices 62 = .ok (.goto 10, 3) := dk_s2 (y := 0) (z := 10) dk_g167 (by decide +kernel) rfl
theorem dX8_choices_65 : decode cX8_choices 65 = .ok (.aload_n 0, 1) := dk_n (t := []) dk_g42 (by decide +kernel)
theorem dX8_choices_66 : decode cX8_choices 66 = .ok (.iconst 1, 1) := dk_n (t := []) dk_g4 (by decide +kernel)
theorem dX8_choices_67 : decode cX8_choices 67 = .ok (.iload_n 3, 1) := dk_n (t := []) dk_g29 (by decide +kernel)
theorem dX8_choices_68 : decode cX8_choices 68 = .ok (.iconst 0, 1) := dk_n (t := []) dk_g3 (by decide +kernel)
theorem dX8_choices_69 : decode cX8_choices 69 = .ok (.invokevirtual 192, 3) := dk_u2 (y := 0) (z := 192) dk_g182 (by decide +kernel) rfl
theorem dX8_choices_72 : decode cX8_choices 72 = .ok (.ireturn, 1) := dk_n (t := []) dk_g172 (by decide +kernel)
theorem dX8_isNarrower_0 : decode cX8_isNarrower 0 = .ok (.aload_n 0, 1) := dk_n (t := []) dk_g42 (by decide +kernel)
theorem dX8_isNarrower_1 : decode cX8_isNarrower 1 = .ok (.aload_n 0, 1) := dk_n (t := []) dk_g42 (by decide +kernel)
theorem dX8_isNarrower_2 : decode cX8_isNarrower 2 = .ok (.iload_n 1, 1) := dk_n (t := []) dk_g27 (by decide +kernel)
theorem dX8_isNarrower_3 : decode cX8_isNarrower 3 = .ok (.invokevirtual 86, 3) := dk_u2 (y := 0) (z := 86) dk_g182 (by decide +kernel) rfl
theorem dX8_isNarrower_6 : decode cX8_isNarrower 6 = .ok (.ifCond .eq 15, 3) := dk_s2 (y := 0) (z := 15) dk_g153 (by decide +kernel) rfl
theorem dX8_isNarrower_9 : decode cX8_isNarrower 9 = .ok (.aload_n 0, 1) := dk_n (t := []) dk_g42 (by decide +kernel)
theorem dX8_isNarrower_10 : decode cX8_isNarrower 10 = .ok (.iload_n 2, 1) := dk_n (t := []) dk_g28 (by decide +kernel)
theorem dX8_isNarrower_11 : decode cX8_isNarrower 11 = .ok (.invokevirtual 86, 3) := dk_u2 (y := 0) (z := 86) dk_g182 (by decide +kernel) rfl
theorem dX8_isNarrower_14 : decode cX8_isNarrower 14 = .ok (.ifCond .eq 7, 3) := dk_s2 (y := 0) (z := 7) dk_g153 (by decide +kernel) rfl
theorem dX8_isNarrower_17 : decode cX8_isNarrower 17 = .ok (.iconst 0, 1) := dk_n (t := []) dk_g3 (by decide +kernel)
theorem dX8_isNarrower_18 : decode cX8_isNarrower 18 = .ok (.goto 4, 3) := dk_s2 (y := 0) (z := 4) dk_g167 (by decide +kernel) rfl
theorem dX8_isNarrower_21 : decode cX8_isNarrower 21 = .ok (.iconst 1, 1) := dk_n (t := []) dk_g4 (by decide +kernel)
theorem dX8_isNarrower_22 : decode cX8_isNarrower 22 = .ok (.putfield 41, 3) := dk_u2 (y := 0) (z := 41) dk_g181 (by decide +kernel) rfl
theorem dX8_isNarrower_25 : decode cX8_isNarrower 25 = .ok (.aload_n 0, 1) := dk_n (t := []) dk_g42 (by decide +kernel)
theorem dX8_isNarrower_26 : decode cX8_isNarrower 26 = .ok (.getfield 41, 3) := dk_u2 (y := 0) (z := 41) dk_g180 (by decide +kernel) rfl
theorem dX8_isNarrower_29 : decode cX8_isNarrower 29 = .ok (.ifCond .ne 23, 3) := dk_s2 (y := 0) (z := 23) dk_g154 (by decide +kernel) rfl
theorem dX8_isNarrower_32 : decode cX8_isNarrower 32 = .ok (.aload_n 0, 1) := dk_n (t := []) dk_g42 (by decide +kernel)
theorem dX8_isNarrower_33 : decode cX8_isNarrower 33 = .ok (.iload_n 1, 1) := dk_n (t := []) dk_g27 (by decide +kernel)
theorem dX8_isNarrower_34 : decode cX8_isNarrower 34 = .ok (.invokevirtual 213, 3) := dk_u2 (y := 0) (z := 213) dk_g182 (by decide +kernel) rfl
theorem dX8_isNarrower_37 : decode cX8_isNarrower 37 = .ok (.aload_n 0, 1) := dk_n (t := []) dk_g42 (by decide +kernel)
theorem dX8_isNarrower_38 : decode cX8_isNarrower 38 = .ok (.iload_n 2, 1) := dk_n (t := []) dk_g28 (by decide +kernel)
theorem dX8_isNarrower_39 : decode cX8_isNarrower 39 = .ok (.invokevirtual 213, 3) := dk_u2 (y := 0) (z := 213) dk_g182 (by decide +kernel) rfl
theorem dX8_isNarrower_42 : decode cX8_isNarrower 42 = .ok (.iconst (-1), 1) := dk_n (t := []) dk_g2 (by decide +kernel)
theorem dX8_isNarrower_43 : decode cX8_isNarrower 43 = .ok (.ixor, 1) := dk_n (t := []) dk_g130 (by decide +kernel)
theorem dX8_isNarrower_44 : decode cX8_isNarrower 44 = .ok (.iand, 1) := dk_n (t := []) dk_g126 (by decide +kernel)
theorem dX8_isNarrower_45 : decode cX8_isNarrower 45 = .ok (.ifCond .ne 7, 3) := dk_s2 (y := 0) (z := 7) dk_g154 (by decide +kernel) rfl
theorem dX8_isNarrower_48 : decode cX8_isNarrower 48 = .ok (.iconst 1, 1) := dk_n (t := []) dk_g4 (by decide +kernel)
theorem dX8_isNarrower_49 : decode cX8_isNarrower 49 = .ok (.goto 4, 3) := dk_s2 (y := 0) (z := 4) dk_g167 (by decide +kernel) rfl
theorem dX8_isNarrower_52 : decode cX8_isNarrower 52 = .ok (.iconst 0, 1) := dk_n (t := []) dk_g3 (by decide +kernel)
theorem dX8_isNarrower_53 : decode cX8_isNarrower 53 = .ok (.ireturn, 1) := dk_n (t := []) dk_g172 (by decide +kernel)
theorem dX8_isSoundNow_0 : decode cX8_isSoundNow 0 = .ok (.aload_n 0, 1) := dk_n (t := []) dk_g42 (by decide +kernel)
theorem dX8_isSoundNow_1 : decode cX8_isSoundNow 1 = .ok (.invokevirtual 196, 3) := dk_u2 (y := 0) (z := 196) dk_g182 (by decide +kernel) rfl
theorem dX8_isSoundNow_4 : decode cX8_isSoundNow 4 = .ok (.istore_n 1, 1) := dk_n (t := []) dk_g60 (by decide +kernel)
theorem dX8_isSoundNow_5 : decode cX8_isSoundNow 5 = .ok (.aload_n 0, 1) := dk_n (t := []) dk_g42 (by decide +kernel)
theorem dX8_isSoundNow_6 : decode cX8_isSoundNow 6 = .ok (.invokevirtual 219, 3) := dk_u2 (y := 0) (z := 219) dk_g182 (by decide +kernel) rfl
theorem dX8_isSoundNow_9 : decode cX8_isSoundNow 9 = .ok (.istore_n 2, 1) := dk_n (t := []) dk_g61 (by decide +kernel)
theorem dX8_isSoundNow_10 : decode cX8_isSoundNow 10 = .ok (.iconst 0, 1) := dk_n (t := []) dk_g3 (by decide +kernel)
theorem dX8_isSoundNow_11 : decode cX8_isSoundNow 11 = .ok (.istore_n 3, 1) := dk_n (t := []) dk_g62 (by decide +kernel)
theorem dX8_isSoundNow_12 : decode cX8_isSoundNow 12 = .ok (.iload_n 3, 1) := dk_n (t := []) dk_g29 (by decide +kernel)
theorem dX8_isSoundNow_13 : decode cX8_isSoundNow 13 = .ok (.aload_n 0, 1) := dk_n (t := []) dk_g42 (by decide +kernel)
theorem dX8_isSoundNow_14 : decode cX8_isSoundNow 14 = .ok (.getfield 45, 3) := dk_u2 (y := 0) (z := 45) dk_g180 (by decide +kernel) rfl
theorem dX8_isSoundNow_17 : decode cX8_isSoundNow 17 = .ok (.if_icmp .ge 59, 3) := dk_s2 (y := 0) (z := 59) dk_g162 (by decide +kernel) rfl
theorem dX8_isSoundNow_20 : decode cX8_isSoundNow 20 = .ok (.aload_n 0, 1) := dk_n (t := []) dk_g42 (by decide +kernel)
theorem dX8_isSoundNow_21 : decode cX8_isSoundNow 21 = .ok (.iload_n 3, 1) := dk_n (t := []) dk_g29 (by decide +kernel)
theorem dX8_isSoundNow_22 : decode cX8_isSoundNow 22 = .ok (.invokevirtual 213, 3) := dk_u2 (y := 0) (z := 213) dk_g182 (by decide +kernel) rfl
theorem dX8_isSoundNow_25 : decode cX8_isSoundNow 25 = .ok (.istore 4, 2) := dk_u1 (y := 4) dk_g54 (by decide +kernel)
theorem dX8_isSoundNow_27 : decode cX8_isSoundNow 27 = .ok (.aload_n 0, 1) := dk_n (t := []) dk_g42 (by decide +kernel)
theorem dX8_isSoundNow_28 : decode cX8_isSoundNow 28 = .ok (.iload_n 3, 1) := dk_n (t := []) dk_g29 (by decide +kernel)
theorem dX8_isSoundNow_29 : decode cX8_isSoundNow 29 = .ok (.invokevirtual 216, 3) := dk_u2 (y := 0) (z := 216) dk_g182 (by decide +kernel) rfl
theorem dX8_isSoundNow_32 : decode cX8_isSoundNow 32 = .ok (.istore 5, 2) := dk_u1 (y := 5) dk_g54 (by decide +kernel)
theorem dX8_isSoundNow_34 : decode cX8_isSoundNow 34 = .ok (.iload 5, 2) := dk_u1 (y := 5) dk_g21 (by decide +kernel)
theorem dX8_isSoundNow_36 : decode cX8_isSoundNow 36 = .ok (.iconst (-1), 1) := dk_n (t := []) dk_g2 (by decide +kernel)
theorem dX8_isSoundNow_37 : decode cX8_isSoundNow 37 = .ok (.if_icmp .eq 13, 3) := dk_s2 (y := 0) (z := 13) dk_g159 (by decide +kernel) rfl
theorem dX8_isSoundNow_40 : decode cX8_isSoundNow 40 = .ok (.iload 4, 2) := dk_u1 (y := 4) dk_g21 (by decide +kernel)
theorem dX8_isSoundNow_42 : decode cX8_isSoundNow 42 = .ok (.iload 5, 2) := dk_u1 (y := 5) dk_g21 (by decide +kernel)
theorem dX8_isSoundNow_44 : decode cX8_isSoundNow 44 = .ok (.ishr, 1) := dk_n (t := []) dk_g122 (by decide +kernel)
theorem dX8_isSoundNow_45 : decode cX8_isSoundNow 45 = .ok (.iconst 1, 1) := dk_n (t := []) dk_g4 (by decide +kernel)
theorem dX8_isSoundNow_46 : decode cX8_isSoundNow 46 = .ok (.iand, 1) := dk_n (t := []) dk_g126 (by decide +kernel)
theorem dX8_isSoundNow_47 : decode cX8_isSoundNow 47 = .ok (.ifCond .eq 21, 3) := dk_s2 (y := 0) (z := 21) dk_g153 (by decide +kernel) rfl
theorem dX8_isSoundNow_50 : decode cX8_isSoundNow 50 = .ok (.iload_n 2, 1) := dk_n (t := []) dk_g28 (by decide +kernel)
theorem dX8_isSoundNow_51 : decode cX8_isSoundNow 51 = .ok (.ifCond .eq 19, 3) := dk_s2 (y := 0) (z := 19) dk_g153 (by decide +kernel) rfl
theorem dX8_isSoundNow_54 : decode cX8_isSoundNow 54 = .ok (.iload 4, 2) := dk_u1 (y := 4) dk_g21 (by decide +kernel)
theorem dX8_isSoundNow_56 : decode cX8_isSoundNow 56 = .ok (.aload_n 0, 1) := dk_n (t := []) dk_g42 (by decide +kernel)
theorem dX8_isSoundNow_57 : decode cX8_isSoundNow 57 = .ok (.getfield 38, 3) := dk_u2 (y := 0) (z := 38) dk_g180 (by decide +kernel) rfl
theorem dX8_isSoundNow_60 : decode cX8_isSoundNow 60 = .ok (.iload_n 3, 1) := dk_n (t := []) dk_g29 (by decide +kernel)
theorem dX8_isSoundNow_61 : decode cX8_isSoundNow 61 = .ok (.iaload, 1) := dk_n (t := []) dk_g46 (by decide +kernel)
theorem dX8_isSoundNow_62 : decode cX8_isSoundNow 62 = .ok (.ishr, 1) := dk_n (t := []) dk_g122 (by decide +kernel)
theorem dX8_isSoundNow_63 : decode cX8_isSoundNow 63 = .ok (.iconst 1, 1) := dk_n (t := []) dk_g4 (by decide +kernel)
theorem dX8_isSoundNow_64 : decode cX8_isSoundNow 64 = .ok (.iand, 1) := dk_n (t := []) dk_g126 (by decide +kernel)
theorem dX8_isSoundNow_65 : decode cX8_isSoundNow 65 = .ok (.ifCond .ne 5, 3) := dk_s2 (y := 0) (z := 5) dk_g154 (by decide +kernel) rfl
theorem dX8_isSoundNow_68 : decode cX8_isSoundNow 68 = .ok (.iconst 0, 1) := dk_n (t := []) dk_g3 (by decide +kernel)
theorem dX8_isSoundNow_69 : decode cX8_isSoundNow 69 = .ok (.ireturn, 1) := dk_n (t := []) dk_g172 (by decide +kernel)
theorem dX8_isSoundNow_70 : decode cX8_isSoundNow 70 = .ok (.iinc 3 1, 3) := dk_ii (y := 3) (z := 1) dk_g132 (by decide +kernel) rfl
theorem dX8_isSoundNow_73 : decode cX8_isSoundNow 73 = .ok (.goto (-61), 3) := dk_s2 (y := 255) (z := 195) dk_g167 (by decide +kernel) rfl
theorem dX8_isSoundNow_76 : decode cX8_isSoundNow 76 = .ok (.iload_n 1, 1) := dk_n (t := []) dk_g27 (by decide +kernel)
theorem dX8_isSoundNow_77 : decode cX8_isSoundNow 77 = .ok (.ifCond .eq 20, 3) := dk_s2 (y := 0) (z := 20) dk_g153 (by decide +kernel) rfl
theorem dX8_isSoundNow_80 : decode cX8_isSoundNow 80 = .ok (.aload_n 0, 1) := dk_n (t := []) dk_g42 (by decide +kernel)
theorem dX8_isSoundNow_81 : decode cX8_isSoundNow 81 = .ok (.iconst (-1), 1) := dk_n (t := []) dk_g2 (by decide +kernel)
theorem dX8_isSoundNow_82 : decode cX8_isSoundNow 82 = .ok (.invokevirtual 228, 3) := dk_u2 (y := 0) (z := 228) dk_g182 (by decide +kernel) rfl
theorem dX8_isSoundNow_85 : decode cX8_isSoundNow 85 = .ok (.istore_n 3, 1) := dk_n (t := []) dk_g62 (by decide +kernel)
theorem dX8_isSoundNow_86 : decode cX8_isSoundNow 86 = .ok (.aload_n 0, 1) := dk_n (t := []) dk_g42 (by decide +kernel)
theorem dX8_isSoundNow_87 : decode cX8_isSoundNow 87 = .ok (.iconst 0, 1) := dk_n (t := []) dk_g3 (by decide +kernel)
theorem dX8_isSoundNow_88 : decode cX8_isSoundNow 88 = .ok (.iload_n 3, 1) := dk_n (t := []) dk_g29 (by decide +kernel)
theorem dX8_isSoundNow_89 : decode cX8_isSoundNow 89 = .ok (.invokevirtual 154, 3) := dk_u2 (y := 0) (z := 154) dk_g182 (by decide +kernel) rfl
theorem dX8_isSoundNow_92 : decode cX8_isSoundNow 92 = .ok (.ifCond .ne 5, 3) := dk_s2 (y := 0) (z := 5) dk_g154 (by decide +kernel) rfl
theorem dX8_isSoundNow_95 : decode cX8_isSoundNow 95 = .ok (.iconst 0, 1) := dk_n (t := []) dk_g3 (by decide +kernel)
theorem dX8_isSoundNow_96 : decode cX8_isSoundNow 96 = .ok (.ireturn, 1) := dk_n (t := []) dk_g172 (by decide +kernel)
theorem dX8_isSoundNow_97 : decode cX8_isSoundNow 97 = .ok (.iconst 0, 1) := dk_n (t := []) dk_g3 (by decide +kernel)
theorem dX8_isSoundNow_98 : decode cX8_isSoundNow 98 = .ok (.istore_n 3, 1) := dk_n (t := []) dk_g62 (by decide +kernel)
theorem dX8_isSoundNow_99 : decode cX8_isSoundNow 99 = .ok (.iload_n 3, 1) := dk_n (t := []) dk_g29 (by decide +kernel)
theorem dX8_isSoundNow_100 : decode cX8_isSoundNow 100 = .ok (.bipush 6, 2) := dk_s1 (y := 6) dk_g16 (by decide +kernel) rfl
theorem dX8_isSoundNow_102 : decode cX8_isSoundNow 102 = .ok (.if_icmp .ge 29, 3) := dk_s2 (y := 0) (z := 29) dk_g162 (by decide +kernel) rfl
theorem dX8_isSoundNow_105 : decode cX8_isSoundNow 105 = .ok (.aload_n 0, 1) := dk_n (t := []) dk_g42 (by decide +kernel)
theorem dX8_isSoundNow_106 : decode cX8_isSoundNow 106 = .ok (.getfield 26, 3) := dk_u2 (y := 0) (z := 26) dk_g180 (by decide +kernel) rfl
theorem dX8_isSoundNow_109 : decode cX8_isSoundNow 109 = .ok (.iload_n 3, 1) := dk_n (t := []) dk_g29 (by decide +kernel)
theorem dX8_isSoundNow_110 : decode cX8_isSoundNow 110 = .ok (.iaload, 1) := dk_n (t := []) dk_g46 (by decide +kernel)
theorem dX8_isSoundNow_111 : decode cX8_isSoundNow 111 = .ok (.iconst (-1), 1) := dk_n (t := []) dk_g2 (by decide +kernel)
theorem dX8_isSoundNow_112 : decode cX8_isSoundNow 112 = .ok (.if_icmp .ne 13, 3) := dk_s2 (y := 0) (z := 13) dk_g160 (by decide +kernel) rfl
theorem dX8_isSoundNow_115 : decode cX8_isSoundNow 115 = .ok (.aload_n 0, 1) := dk_n (t := []) dk_g42 (by decide +kernel)
theorem dX8_isSoundNow_116 : decode cX8_isSoundNow 116 = .ok (.iload_n 3, 1) := dk_n (t := []) dk_g29 (by decide +kernel)
theorem dX8_isSoundNow_117 : decode cX8_isSoundNow 117 = .ok (.invokevirtual 204, 3) := dk_u2 (y := 0) (z := 204) dk_g182 (by decide +kernel) rfl
theorem dX8_isSoundNow_120 : decode cX8_isSoundNow 120 = .ok (.ifCond .eq 5, 3) := dk_s2 (y := 0) (z := 5) dk_g153 (by decide +kernel) rfl
theorem dX8_isSoundNow_123 : decode cX8_isSoundNow 123 = .ok (.iconst 0, 1) := dk_n (t := []) dk_g3 (by decide +kernel)
theorem dX8_isSoundNow_124 : decode cX8_isSoundNow 124 = .ok (.ireturn, 1) := dk_n (t := []) dk_g172 (by decide +kernel)
theorem dX8_isSoundNow_125 : decode cX8_isSoundNow 125 = .ok (.iinc 3 1, 3) := dk_ii (y := 3) (z := 1) dk_g132 (by decide +kernel) rfl
theorem dX8_isSoundNow_128 : decode cX8_isSoundNow 128 = .ok (.goto (-29), 3) := dk_s2 (y := 255) (z := 227) dk_g167 (by decide +kernel) rfl
theorem dX8_isSoundNow_131 : decode cX8_isSoundNow 131 = .ok (.aload_n 0, 1) := dk_n (t := []) dk_g42 (by decide +kernel)
theorem dX8_isSoundNow_132 : decode cX8_isSoundNow 132 = .ok (.getfield 19, 3) := dk_u2 (y := 0) (z := 19) dk_g180 (by decide +kernel) rfl
theorem dX8_isSoundNow_135 : decode cX8_isSoundNow 135 = .ok (.invokevirtual 237, 3) := dk_u2 (y := 0) (z := 237) dk_g182 (by decide +kernel) rfl
theorem dX8_isSoundNow_138 : decode cX8_isSoundNow 138 = .ok (.astore_n 3, 1) := dk_n (t := []) dk_g78 (by decide +kernel)
theorem dX8_isSoundNow_139 : decode cX8_isSoundNow 139 = .ok (.aload_n 3, 1) := dk_n (t := []) dk_g45 (by decide +kernel)
theorem dX8_isSoundNow_140 : decode cX8_isSoundNow 140 = .ok (.invokeinterface 241 1, 5) := by decide +kernel
theorem dX8_isSoundNow_145 : decode cX8_isSoundNow 145 = .ok (.ifCond .eq 36, 3) := dk_s2 (y := 0) (z := 36) dk_g153 (by decide +kernel) rfl
theorem dX8_isSoundNow_148 : decode cX8_isSoundNow 148 = .ok (.aload_n 3, 1) := dk_n (t := []) dk_g45 (by decide +kernel)
theorem dX8_isSoundNow_149 : decode cX8_isSoundNow 149 = .ok (.invokeinterface 246 1, 5) := by decide +kernel
theorem dX8_isSoundNow_154 : decode cX8_isSoundNow 154 = .ok (.checkcast 57, 3) := dk_u2 (y := 0) (z := 57) dk_g192 (by decide +kernel) rfl
theorem dX8_isSoundNow_157 : decode cX8_isSoundNow 157 = .ok (.astore 4, 2) := dk_u1 (y := 4) dk_g58 (by decide +kernel)
theorem dX8_isSoundNow_159 : decode cX8_isSoundNow 159 = .ok (.aload 4, 2) := dk_u1 (y := 4) dk_g25 (by decide +kernel)
theorem dX8_isSoundNow_161 : decode cX8_isSoundNow 161 = .ok (.getfield 56, 3) := dk_u2 (y := 0) (z := 56) dk_g180 (by decide +kernel) rfl
theorem dX8_isSoundNow_164 : decode cX8_isSoundNow 164 = .ok (.ifCond .eq 14, 3) := dk_s2 (y := 0) (z := 14) dk_g153 (by decide +kernel) rfl
theorem dX8_isSoundNow_167 : decode cX8_isSoundNow 167 = .ok (.aload_n 0, 1) := dk_n (t := []) dk_g42 (by decide +kernel)
theorem dX8_isSoundNow_168 : decode cX8_isSoundNow 168 = .ok (.aload 4, 2) := dk_u1 (y := 4) dk_g25 (by decide +kernel)
theorem dX8_isSoundNow_170 : decode cX8_isSoundNow 170 = .ok (.invokevirtual 75, 3) := dk_u2 (y := 0) (z := 75) dk_g182 (by decide +kernel) rfl
theorem dX8_isSoundNow_173 : decode cX8_isSoundNow 173 = .ok (.ifCond .eq 5, 3) := dk_s2 (y := 0) (z := 5) dk_g153 (by decide +kernel) rfl
theorem dX8_isSoundNow_176 : decode cX8_isSoundNow 176 = .ok (.iconst 0, 1) := dk_n (t := []) dk_g3 (by decide +kernel)
theorem dX8_isSoundNow_177 : decode cX8_isSoundNow 177 = .ok (.ireturn, 1) := dk_n (t := []) dk_g172 (by decide +kernel)
theorem dX8_isSoundNow_178 : decode cX8_isSoundNow 178 = .ok (.goto (-39), 3) := dk_s2 (y := 255) (z := 217) dk_g167 (by decide +kernel) rfl
theorem dX8_isSoundNow_181 : decode cX8_isSoundNow 181 = .ok (.iconst 1, 1) := dk_n (t := []) dk_g4 (by decide +kernel)
theorem dX8_isSoundNow_182 : decode cX8_isSoundNow 182 = .ok (.ireturn, 1) := dk_n (t := []) dk_g172 (by decide +kernel)
theorem dX8_isSound_0 : decode cX8_isSound 0 = .ok (.aload_n 0, 1) := dk_n (t := []) dk_g42 (by decide +kernel)
theorem dX8_isSound_1 : decode cX8_isSound 1 = .ok (.iconst 0, 1) := dk_n (t := []) dk_g3 (by decide +kernel)
theorem dX8_isSound_2 : decode cX8_isSound 2 = .ok (.putfield 41, 3) := dk_u2 (y := 0) (z := 41) dk_g181 (by decide +kernel) rfl
theorem dX8_isSound_5 : decode cX8_isSound 5 = .ok (.aload_n 0, 1) := dk_n (t := []) dk_g42 (by decide +kernel)
theorem dX8_isSound_6 : decode cX8_isSound 6 = .ok (.invokevirtual 273, 3) := dk_u2 (y := 1) (z := 17) dk_g182 (by decide +kernel) rfl
theorem dX8_isSound_9 : decode cX8_isSound 9 = .ok (.ireturn, 1) := dk_n (t := []) dk_g172 (by decide +kernel)
theorem dX8_add_0 : decode cX8_add 0 = .ok (.aload_n 0, 1) := dk_n (t := []) dk_g42 (by decide +kernel)
theorem dX8_add_1 : decode cX8_add 1 = .ok (.aload_n 0, 1) := dk_n (t := []) dk_g42 (by decide +kernel)
theorem dX8_add_2 : decode cX8_add 2 = .ok (.getfield 276, 3) := dk_u2 (y := 1) (z := 20) dk_g180 (by decide +kernel) rfl
theorem dX8_add_5 : decode cX8_add 5 = .ok (.ldc2_w 280, 3) := dk_u2 (y := 1) (z := 24) dk_g20 (by decide +kernel) rfl
theorem dX8_add_8 : decode cX8_add 8 = .ok (.lmul, 1) := dk_n (t := []) dk_g105 (by decide +kernel)
theorem dX8_add_9 : decode cX8_add 9 = .ok (.lload_n 1, 1) := dk_n (t := []) dk_g31 (by decide +kernel)
theorem dX8_add_10 : decode cX8_add 10 = .ok (.ladd, 1) := dk_n (t := []) dk_g97 (by decide +kernel)
theorem dX8_add_11 : decode cX8_add 11 = .ok (.putfield 276, 3) := dk_u2 (y := 1) (z := 20) dk_g181 (by decide +kernel) rfl
theorem dX8_add_14 : decode cX8_add 14 = .ok (.return_, 1) := dk_n (t := []) dk_g177 (by decide +kernel)
theorem dX8_digest_0 : decode cX8_digest 0 = .ok (.aload_n 0, 1) := dk_n (t := []) dk_g42 (by decide +kernel)
theorem dX8_digest_1 : decode cX8_digest 1 = .ok (.iconst 0, 1) := dk_n (t := []) dk_g3 (by decide +kernel)
theorem dX8_digest_2 : decode cX8_digest 2 = .ok (.putfield 41, 3) := dk_u2 (y := 0) (z := 41) dk_g181 (by decide +kernel) rfl
theorem dX8_digest_5 : decode cX8_digest 5 = .ok (.aload_n 0, 1) := dk_n (t := []) dk_g42 (by decide +kernel)
theorem dX8_digest_6 : decode cX8_digest 6 = .ok (.ldc2_w 282, 3) := dk_u2 (y := 1) (z := 26) dk_g20 (by decide +kernel) rfl
theorem dX8_digest_9 : decode cX8_digest 9 = .ok (.putfield 276, 3) := dk_u2 (y := 1) (z := 20) dk_g181 (by decide +kernel) rfl
theorem dX8_digest_12 : decode cX8_digest 12 = .ok (.iconst 0, 1) := dk_n (t := []) dk_g3 (by decide +kernel)
theorem dX8_digest_13 : decode cX8_digest 13 = .ok (.istore_n 1, 1) := dk_n (t := []) dk_g60 (by decide +kernel)
theorem dX8_digest_14 : decode cX8_digest 14 = .ok (.iload_n 1, 1) := dk_n (t := []) dk_g27 (by decide +kernel)
theorem dX8_digest_15 : decode cX8_digest 15 = .ok (.bipush 9, 2) := dk_s1 (y := 9) dk_g16 (by decide +kernel) rfl
theorem dX8_digest_17 : decode cX8_digest 17 = .ok (.if_icmp .ge 19, 3) := dk_s2 (y := 0) (z := 19) dk_g162 (by decide +kernel) rfl
theorem dX8_digest_20 : decode cX8_digest 20 = .ok (.aload_n 0, 1) := dk_n (t := []) dk_g42 (by decide +kernel)
theorem dX8_digest_21 : decode cX8_digest 21 = .ok (.aload_n 0, 1) := dk_n (t := []) dk_g42 (by decide +kernel)
theorem dX8_digest_22 : decode cX8_digest 22 = .ok (.iload_n 1, 1) := dk_n (t := []) dk_g27 (by decide +kernel)
theorem dX8_digest_23 : decode cX8_digest 23 = .ok (.invokevirtual 250, 3) := dk_u2 (y := 0) (z := 250) dk_g182 (by decide +kernel) rfl
theorem dX8_digest_26 : decode cX8_digest 26 = .ok (.i2l, 1) := dk_n (t := []) dk_g133 (by decide +kernel)
theorem dX8_digest_27 : decode cX8_digest 27 = .ok (.invokevirtual 284, 3) := dk_u2 (y := 1) (z := 28) dk_g182 (by decide +kernel) rfl
theorem dX8_digest_30 : decode cX8_digest 30 = .ok (.iinc 1 1, 3) := dk_ii (y := 1) (z := 1) dk_g132 (by decide +kernel) rfl
theorem dX8_digest_33 : decode cX8_digest 33 = .ok (.goto (-19), 3) := dk_s2 (y := 255) (z := 237) dk_g167 (by decide +kernel) rfl
theorem dX8_digest_36 : decode cX8_digest 36 = .ok (.iconst 0, 1) := dk_n (t := []) dk_g3 (by decide +kernel)
theorem dX8_digest_37 : decode cX8_digest 37 = .ok (.istore_n 1, 1) := dk_n (t := []) dk_g60 (by decide +kernel)
theorem dX8_digest_38 : decode cX8_digest 38 = .ok (.iload_n 1, 1) := dk_n (t := []) dk_g27 (by decide +kernel)
theorem dX8_digest_39 : decode cX8_digest 39 = .ok (.aload_n 0, 1) := dk_n (t := []) dk_g42 (by decide +kernel)
theorem dX8_digest_40 : decode cX8_digest 40 = .ok (.getfield 45, 3) := dk_u2 (y := 0) (z := 45) dk_g180 (by decide +kernel) rfl
theorem dX8_digest_43 : decode cX8_digest 43 = .ok (.if_icmp .ge 44, 3) := dk_s2 (y := 0) (z := 44) dk_g162 (by decide +kernel) rfl
theorem dX8_digest_46 : decode cX8_digest 46 = .ok (.iconst 0, 1) := dk_n (t := []) dk_g3 (by decide +kernel)
theorem dX8_digest_47 : decode cX8_digest 47 = .ok (.istore_n 2, 1) := dk_n (t := []) dk_g61 (by decide +kernel)
theorem dX8_digest_48 : decode cX8_digest 48 = .ok (.iload_n 2, 1) := dk_n (t := []) dk_g28 (by decide +kernel)
theorem dX8_digest_49 : decode cX8_digest 49 = .ok (.bipush 7, 2) := dk_s1 (y := 7) dk_g16 (by decide +kernel) rfl
theorem dX8_digest_51 : decode cX8_digest 51 = .ok (.if_icmp .ge 20, 3) := dk_s2 (y := 0) (z := 20) dk_g162 (by decide +kernel) rfl
theorem dX8_digest_54 : decode cX8_digest 54 = .ok (.aload_n 0, 1) := dk_n (t := []) dk_g42 (by decide +kernel)
theorem dX8_digest_55 : decode cX8_digest 55 = .ok (.aload_n 0, 1) := dk_n (t := []) dk_g42 (by decide +kernel)
theorem dX8_digest_56 : decode cX8_digest 56 = .ok (.iload_n 1, 1) := dk_n (t := []) dk_g27 (by decide +kernel)
theorem dX8_digest_57 : decode cX8_digest 57 = .ok (.iload_n 2, 1) := dk_n (t := []) dk_g28 (by decide +kernel)
theorem dX8_digest_58 : decode cX8_digest 58 = .ok (.invokevirtual 225, 3) := dk_u2 (y := 0) (z := 225) dk_g182 (by decide +kernel) rfl
theorem dX8_digest_61 : decode cX8_digest 61 = .ok (.i2l, 1) := dk_n (t := []) dk_g133 (by decide +kernel)
theorem dX8_digest_62 : decode cX8_digest 62 = .ok (.invokevirtual 284, 3) := dk_u2 (y := 1) (z := 28) dk_g182 (by decide +kernel) rfl
theorem dX8_digest_65 : decode cX8_digest 65 = .ok (.iinc 2 1, 3) := dk_ii (y := 2) (z := 1) dk_g132 (by decide +kernel) rfl
theorem dX8_digest_68 : decode cX8_digest 68 = .ok (.goto (-20), 3) := dk_s2 (y := 255) (z := 236) dk_g167 (by decide +kernel) rfl
theorem dX8_digest_71 : decode cX8_digest 71 = .ok (.aload_n 0, 1) := dk_n (t := []) dk_g42 (by decide +kernel)
theorem dX8_digest_72 : decode cX8_digest 72 = .ok (.aload_n 0, 1) := dk_n (t := []) dk_g42 (by decide +kernel)
theorem dX8_digest_73 : decode cX8_digest 73 = .ok (.iload_n 1, 1) := dk_n (t := []) dk_g27 (by decide +kernel)
theorem dX8_digest_74 : decode cX8_digest 74 = .ok (.invokevirtual 228, 3) := dk_u2 (y := 0) (z := 228) dk_g182 (by decide +kernel) rfl
theorem dX8_digest_77 : decode cX8_digest 77 = .ok (.i2l, 1) := dk_n (t := []) dk_g133 (by decide +kernel)
theorem dX8_digest_78 : decode cX8_digest 78 = .ok (.invokevirtual 284, 3) := dk_u2 (y := 1) (z := 28) dk_g182 (by decide +kernel) rfl
theorem dX8_digest_81 : decode cX8_digest 81 = .ok (.iinc 1 1, 3) := dk_ii (y := 1) (z := 1) dk_g132 (by decide +kernel) rfl
theorem dX8_digest_84 : decode cX8_digest 84 = .ok (.goto (-46), 3) := dk_s2 (y := 255) (z := 210) dk_g167 (by decide +kernel) rfl
theorem dX8_digest_87 : decode cX8_digest 87 = .ok (.aload_n 0, 1) := dk_n (t := []) dk_g42 (by decide +kernel)
theorem dX8_digest_88 : decode cX8_digest 88 = .ok (.aload_n 0, 1) := dk_n (t := []) dk_g42 (by decide +kernel)
theorem dX8_digest_89 : decode cX8_digest 89 = .ok (.iconst (-1), 1) := dk_n (t := []) dk_g2 (by decide +kernel)
theorem dX8_digest_90 : decode cX8_digest 90 = .ok (.invokevirtual 228, 3) := dk_u2 (y := 0) (z := 228) dk_g182 (by decide +kernel) rfl
theorem dX8_digest_93 : decode cX8_digest 93 = .ok (.i2l, 1) := dk_n (t := []) dk_g133 (by decide +kernel)
theorem dX8_digest_94 : decode cX8_digest 94 = .ok (.invokevirtual 284, 3) := dk_u2 (y := 1) (z := 28) dk_g182 (by decide +kernel) rfl
theorem dX8_digest_97 : decode cX8_digest 97 = .ok (.iconst 0, 1) := dk_n (t := []) dk_g3 (by decide +kernel)
theorem dX8_digest_98 : decode cX8_digest 98 = .ok (.istore_n 1, 1) := dk_n (t := []) dk_g60 (by decide +kernel)
theorem dX8_digest_99 : decode cX8_digest 99 = .ok (.iload_n 1, 1) := dk_n (t := []) dk_g27 (by decide +kernel)
theorem dX8_digest_100 : decode cX8_digest 100 = .ok (.aload_n 0, 1) := dk_n (t := []) dk_g42 (by decide +kernel)
theorem dX8_digest_101 : decode cX8_digest 101 = .ok (.getfield 19, 3) := dk_u2 (y := 0) (z := 19) dk_g180 (by decide +kernel) rfl
theorem dX8_digest_104 : decode cX8_digest 104 = .ok (.invokevirtual 52, 3) := dk_u2 (y := 0) (z := 52) dk_g182 (by decide +kernel) rfl
theorem dX8_digest_107 : decode cX8_digest 107 = .ok (.if_icmp .ge 20, 3) := dk_s2 (y := 0) (z := 20) dk_g162 (by decide +kernel) rfl
theorem dX8_digest_110 : decode cX8_digest 110 = .ok (.aload_n 0, 1) := dk_n (t := []) dk_g42 (by decide +kernel)
theorem dX8_digest_111 : decode cX8_digest 111 = .ok (.aload_n 0, 1) := dk_n (t := []) dk_g42 (by decide +kernel)
theorem dX8_digest_112 : decode cX8_digest 112 = .ok (.iload_n 1, 1) := dk_n (t := []) dk_g27 (by decide +kernel)
theorem dX8_digest_113 : decode cX8_digest 113 = .ok (.iconst 5, 1) := dk_n (t := []) dk_g8 (by decide +kernel)
theorem dX8_digest_114 : decode cX8_digest 114 = .ok (.invokevirtual 231, 3) := dk_u2 (y := 0) (z := 231) dk_g182 (by decide +kernel) rfl
theorem dX8_digest_117 : decode cX8_digest 117 = .ok (.i2l, 1) := dk_n (t := []) dk_g133 (by decide +kernel)
theorem dX8_digest_118 : decode cX8_digest 118 = .ok (.invokevirtual 284, 3) := dk_u2 (y := 1) (z := 28) dk_g182 (by decide +kernel) rfl
theorem dX8_digest_121 : decode cX8_digest 121 = .ok (.iinc 1 1, 3) := dk_ii (y := 1) (z := 1) dk_g132 (by decide +kernel) rfl
theorem dX8_digest_124 : decode cX8_digest 124 = .ok (.goto (-25), 3) := dk_s2 (y := 255) (z := 231) dk_g167 (by decide +kernel) rfl
theorem dX8_digest_127 : decode cX8_digest 127 = .ok (.iconst 0, 1) := dk_n (t := []) dk_g3 (by decide +kernel)
theorem dX8_digest_128 : decode cX8_digest 128 = .ok (.istore_n 1, 1) := dk_n (t := []) dk_g60 (by decide +kernel)
theorem dX8_digest_129 : decode cX8_digest 129 = .ok (.iload_n 1, 1) := dk_n (t := []) dk_g27 (by decide +kernel)
theorem dX8_digest_130 : decode cX8_digest 130 = .ok (.bipush 6, 2) := dk_s1 (y := 6) dk_g16 (by decide +kernel) rfl
theorem dX8_digest_132 : decode cX8_digest 132 = .ok (.if_icmp .ge 64, 3) := dk_s2 (y := 0) (z := 64) dk_g162 (by decide +kernel) rfl
theorem dX8_digest_135 : decode cX8_digest 135 = .ok (.iconst 0, 1) := dk_n (t := []) dk_g3 (by decide +kernel)
theorem dX8_digest_136 : decode cX8_digest 136 = .ok (.istore_n 2, 1) := dk_n (t := []) dk_g61 (by decide +kernel)
theorem dX8_digest_137 : decode cX8_digest 137 = .ok (.iload_n 2, 1) := dk_n (t := []) dk_g28 (by decide +kernel)
theorem dX8_digest_138 : decode cX8_digest 138 = .ok (.iconst 3, 1) := dk_n (t := []) dk_g6 (by decide +kernel)
theorem dX8_digest_139 : decode cX8_digest 139 = .ok (.if_icmp .ge 20, 3) := dk_s2 (y := 0) (z := 20) dk_g162 (by decide +kernel) rfl
theorem dX8_digest_142 : decode cX8_digest 142 = .ok (.aload_n 0, 1) := dk_n (t := []) dk_g42 (by decide +kernel)
theorem dX8_digest_143 : decode cX8_digest 143 = .ok (.aload_n 0, 1) := dk_n (t := []) dk_g42 (by decide +kernel)
theorem dX8_digest_144 : decode cX8_digest 144 = .ok (.iload_n 1, 1) := dk_n (t := []) dk_g27 (by decide +kernel)
theorem dX8_digest_145 : decode cX8_digest 145 = .ok (.iload_n 2, 1) := dk_n (t := []) dk_g28 (by decide +kernel)
theorem dX8_digest_146 : decode cX8_digest 146 = .ok (.invokevirtual 234, 3) := dk_u2 (y := 0) (z := 234) dk_g182 (by decide +kernel) rfl
theorem dX8_digest_149 : decode cX8_digest 149 = .ok (.i2l, 1) := dk_n (t := []) dk_g133 (by decide +kernel)
theorem dX8_digest_150 : decode cX8_digest 150 = .ok (.invokevirtual 284, 3) := dk_u2 (y := 1) (z := 28) dk_g182 (by decide +kernel) rfl
theorem dX8_digest_153 : decode cX8_digest 153 = .ok (.iinc 2 1, 3) := dk_ii (y := 2) (z := 1) dk_g132 (by decide +kernel) rfl
theorem dX8_digest_156 : decode cX8_digest 156 = .ok (.goto (-19), 3) := dk_s2 (y := 255) (z := 237) dk_g167 (by decide +kernel) rfl
theorem dX8_digest_159 : decode cX8_digest 159 = .ok (.iconst 0, 1) := dk_n (t := []) dk_g3 (by decide +kernel)
theorem dX8_digest_160 : decode cX8_digest 160 = .ok (.istore_n 2, 1) := dk_n (t := []) dk_g61 (by decide +kernel)
theorem dX8_digest_161 : decode cX8_digest 161 = .ok (.iload_n 2, 1) := dk_n (t := []) dk_g28 (by decide +kernel)
theorem dX8_digest_162 : decode cX8_digest 162 = .ok (.aload_n 0, 1) := dk_n (t := []) dk_g42 (by decide +kernel)
theorem dX8_digest_163 : decode cX8_digest 163 = .ok (.getfield 45, 3) := dk_u2 (y := 0) (z := 45) dk_g180 (by decide +kernel) rfl
theorem dX8_digest_166 : decode cX8_digest 166 = .ok (.if_icmp .ge 24, 3) := dk_s2 (y := 0) (z := 24) dk_g162 (by decide +kernel) rfl
theorem dX8_digest_169 : decode cX8_digest 169 = .ok (.aload_n 0, 1) := dk_n (t := []) dk_g42 (by decide +kernel)
theorem dX8_digest_170 : decode cX8_digest 170 = .ok (.aload_n 0, 1) := dk_n (t := []) dk_g42 (by decide +kernel)
theorem dX8_digest_171 : decode cX8_digest 171 = .ok (.getfield 29, 3) := dk_u2 (y := 0) (z := 29) dk_g180 (by decide +kernel) rfl
theorem dX8_digest_174 : decode cX8_digest 174 = .ok (.iload_n 1, 1) := dk_n (t := []) dk_g27 (by decide +kernel)
theorem dX8_digest_175 : decode cX8_digest 175 = .ok (.iconst 5, 1) := dk_n (t := []) dk_g8 (by decide +kernel)
theorem dX8_digest_176 : decode cX8_digest 176 = .ok (.imul, 1) := dk_n (t := []) dk_g104 (by decide +kernel)
theorem dX8_digest_177 : decode cX8_digest 177 = .ok (.iload_n 2, 1) := dk_n (t := []) dk_g28 (by decide +kernel)
theorem dX8_digest_178 : decode cX8_digest 178 = .ok (.iadd, 1) := dk_n (t := []) dk_g96 (by decide +kernel)
theorem dX8_digest_179 : decode cX8_digest 179 = .ok (.iaload, 1) := dk_n (t := []) dk_g46 (by decide +kernel)
theorem dX8_digest_180 : decode cX8_digest 180 = .ok (.i2l, 1) := dk_n (t := []) dk_g133 (by decide +kernel)
theorem dX8_digest_181 : decode cX8_digest 181 = .ok (.invokevirtual 284, 3) := dk_u2 (y := 1) (z := 28) dk_g182 (by decide +kernel) rfl
theorem dX8_digest_184 : decode cX8_digest 184 = .ok (.iinc 2 1, 3) := dk_ii (y := 2) (z := 1) dk_g132 (by decide +kernel) rfl
theorem dX8_digest_187 : decode cX8_digest 187 = .ok (.goto (-26), 3) := dk_s2 (y := 255) (z := 230) dk_g167 (by decide +kernel) rfl
theorem dX8_digest_190 : decode cX8_digest 190 = .ok (.iinc 1 1, 3) := dk_ii (y := 1) (z := 1) dk_g132 (by decide +kernel) rfl
theorem dX8_digest_193 : decode cX8_digest 193 = .ok (.goto (-64), 3) := dk_s2 (y := 255) (z := 192) dk_g167 (by decide +kernel) rfl
theorem dX8_digest_196 : decode cX8_digest 196 = .ok (.iconst 0, 1) := dk_n (t := []) dk_g3 (by decide +kernel)
theorem dX8_digest_197 : decode cX8_digest 197 = .ok (.istore_n 1, 1) := dk_n (t := []) dk_g60 (by decide +kernel)
theorem dX8_digest_198 : decode cX8_digest 198 = .ok (.iload_n 1, 1) := dk_n (t := []) dk_g27 (by decide +kernel)
theorem dX8_digest_199 : decode cX8_digest 199 = .ok (.aload_n 0, 1) := dk_n (t := []) dk_g42 (by decide +kernel)
theorem dX8_digest_200 : decode cX8_digest 200 = .ok (.getfield 23, 3) := dk_u2 (y := 0) (z := 23) dk_g180 (by decide +kernel) rfl
theorem dX8_digest_203 : decode cX8_digest 203 = .ok (.invokevirtual 52, 3) := dk_u2 (y := 0) (z := 52) dk_g182 (by decide +kernel) rfl
theorem dX8_digest_206 : decode cX8_digest 206 = .ok (.if_icmp .ge 43, 3) := dk_s2 (y := 0) (z := 43) dk_g162 (by decide +kernel) rfl
theorem dX8_digest_209 : decode cX8_digest 209 = .ok (.iconst 0, 1) := dk_n (t := []) dk_g3 (by decide +kernel)
theorem dX8_digest_210 : decode cX8_digest 210 = .ok (.istore_n 2, 1) := dk_n (t := []) dk_g61 (by decide +kernel)
theorem dX8_digest_211 : decode cX8_digest 211 = .ok (.iload_n 2, 1) := dk_n (t := []) dk_g28 (by decide +kernel)
theorem dX8_digest_212 : decode cX8_digest 212 = .ok (.aload_n 0, 1) := dk_n (t := []) dk_g42 (by decide +kernel)
theorem dX8_digest_213 : decode cX8_digest 213 = .ok (.getfield 45, 3) := dk_u2 (y := 0) (z := 45) dk_g180 (by decide +kernel) rfl
theorem dX8_digest_216 : decode cX8_digest 216 = .ok (.if_icmp .ge 27, 3) := dk_s2 (y := 0) (z := 27) dk_g162 (by decide +kernel) rfl
theorem dX8_digest_219 : decode cX8_digest 219 = .ok (.aload_n 0, 1) := dk_n (t := []) dk_g42 (by decide +kernel)
theorem dX8_digest_220 : decode cX8_digest 220 = .ok (.aload_n 0, 1) := dk_n (t := []) dk_g42 (by decide +kernel)
theorem dX8_digest_221 : decode cX8_digest 221 = .ok (.getfield 23, 3) := dk_u2 (y := 0) (z := 23) dk_g180 (by decide +kernel) rfl
theorem dX8_digest_224 : decode cX8_digest 224 = .ok (.iload_n 1, 1) := dk_n (t := []) dk_g27 (by decide +kernel)
theorem dX8_digest_225 : decode cX8_digest 225 = .ok (.invokevirtual 71, 3) := dk_u2 (y := 0) (z := 71) dk_g182 (by decide +kernel) rfl
theorem dX8_digest_228 : decode cX8_digest 228 = .ok (.checkcast 200, 3) := dk_u2 (y := 0) (z := 200) dk_g192 (by decide +kernel) rfl
theorem dX8_digest_231 : decode cX8_digest 231 = .ok (.iload_n 2, 1) := dk_n (t := []) dk_g28 (by decide +kernel)
theorem dX8_digest_232 : decode cX8_digest 232 = .ok (.iaload, 1) := dk_n (t := []) dk_g46 (by decide +kernel)
theorem dX8_digest_233 : decode cX8_digest 233 = .ok (.i2l, 1) := dk_n (t := []) dk_g133 (by decide +kernel)
theorem dX8_digest_234 : decode cX8_digest 234 = .ok (.invokevirtual 284, 3) := dk_u2 (y := 1) (z := 28) dk_g182 (by decide +kernel) rfl
theorem dX8_digest_237 : decode cX8_digest 237 = .ok (.iinc 2 1, 3) := dk_ii (y := 2) (z := 1) dk_g132 (by decide +kernel) rfl
theorem dX8_digest_240 : decode cX8_digest 240 = .ok (.goto (-29), 3) := dk_s2 (y := 255) (z := 227) dk_g167 (by decide +kernel) rfl
theorem dX8_digest_243 : decode cX8_digest 243 = .ok (.iinc 1 1, 3) := dk_ii (y := 1) (z := 1) dk_g132 (by decide +kernel) rfl
theorem dX8_digest_246 : decode cX8_digest 246 = .ok (.goto (-48), 3) := dk_s2 (y := 255) (z := 208) dk_g167 (by decide +kernel) rfl
theorem dX8_digest_249 : decode cX8_digest 249 = .ok (.aload_n 0, 1) := dk_n (t := []) dk_g42 (by decide +kernel)
theorem dX8_digest_250 : decode cX8_digest 250 = .ok (.aload_n 0, 1) := dk_n (t := []) dk_g42 (by decide +kernel)
theorem dX8_digest_251 : decode cX8_digest 251 = .ok (.invokevirtual 273, 3) := dk_u2 (y := 1) (z := 17) dk_g182 (by decide +kernel) rfl
theorem dX8_digest_254 : decode cX8_digest 254 = .ok (.ifCond .eq 7, 3) := dk_s2 (y := 0) (z := 7) dk_g153 (by decide +kernel) rfl
theorem dX8_digest_257 : decode cX8_digest 257 = .ok (.lconst 1, 1) := dk_n (t := []) dk_g10 (by decide +kernel)
theorem dX8_digest_258 : decode cX8_digest 258 = .ok (.goto 4, 3) := dk_s2 (y := 0) (z := 4) dk_g167 (by decide +kernel) rfl
theorem dX8_digest_261 : decode cX8_digest 261 = .ok (.lconst 0, 1) := dk_n (t := []) dk_g9 (by decide +kernel)
theorem dX8_digest_262 : decode cX8_digest 262 = .ok (.invokevirtual 284, 3) := dk_u2 (y := 1) (z := 28) dk_g182 (by decide +kernel) rfl
theorem dX8_digest_265 : decode cX8_digest 265 = .ok (.aload_n 0, 1) := dk_n (t := []) dk_g42 (by decide +kernel)
theorem dX8_digest_266 : decode cX8_digest 266 = .ok (.getfield 276, 3) := dk_u2 (y := 1) (z := 20) dk_g180 (by decide +kernel) rfl
theorem dX8_digest_269 : decode cX8_digest 269 = .ok (.lreturn, 1) := dk_n (t := []) dk_g173 (by decide +kernel)
theorem dJ5_init_d00df_0 : decode cJ5_init_d00df 0 = .ok (.aload_n 0, 1) := dk_n (t := []) dk_g42 (by decide +kernel)
theorem dJ5_init_d00df_1 : decode cJ5_init_d00df 1 = .ok (.invokespecial 3, 3) := dk_u2 (y := 0) (z := 3) dk_g183 (by decide +kernel) rfl
theorem dJ5_init_d00df_4 : decode cJ5_init_d00df 4 = .ok (.getstatic 18, 3) := dk_u2 (y := 0) (z := 18) dk_g178 (by decide +kernel) rfl
theorem dJ5_init_d00df_7 : decode cJ5_init_d00df 7 = .ok (.ifCond .eq 18, 3) := dk_s2 (y := 0) (z := 18) dk_g153 (by decide +kernel) rfl
theorem dJ5_init_d00df_10 : decode cJ5_init_d00df 10 = .ok (.aload_n 0, 1) := dk_n (t := []) dk_g42 (by decide +kernel)
theorem dJ5_init_d00df_11 : decode cJ5_init_d00df 11 = .ok (.iload_n 1, 1) := dk_n (t := []) dk_g27 (by decide +kernel)
theorem dJ5_init_d00df_12 : decode cJ5_init_d00df 12 = .ok (.newarray .byte, 2) := by decide +kernel
theorem dJ5_init_d00df_14 : decode cJ5_init_d00df 14 = .ok (.putfield 15, 3) := dk_u2 (y := 0) (z := 15) dk_g181 (by decide +kernel) rfl
theorem dJ5_init_d00df_17 : decode cJ5_init_d00df 17 = .ok (.aload_n 0, 1) := dk_n (t := []) dk_g42 (by decide +kernel)
theorem dJ5_init_d00df_18 : decode cJ5_init_d00df 18 = .ok (.iconst 0, 1) := dk_n (t := []) dk_g3 (by decide +kernel)
theorem dJ5_init_d00df_19 : decode cJ5_init_d00df 19 = .ok (.putfield 22, 3) := dk_u2 (y := 0) (z := 22) dk_g181 (by decide +kernel) rfl
theorem dJ5_init_d00df_22 : decode cJ5_init_d00df 22 = .ok (.goto 16, 3) := dk_s2 (y := 0) (z := 16) dk_g167 (by decide +kernel) rfl
theorem dJ5_init_d00df_25 : decode cJ5_init_d00df 25 = .ok (.aload_n 0, 1) := dk_n (t := []) dk_g42 (by decide +kernel)
theorem dJ5_init_d00df_26 : decode cJ5_init_d00df 26 = .ok (.iload_n 1, 1) := dk_n (t := []) dk_g27 (by decide +kernel)
theorem dJ5_init_d00df_27 : decode cJ5_init_d00df 27 = .ok (.invokestatic 26, 3) := dk_u2 (y := 0) (z := 26) dk_g184 (by decide +kernel) rfl
theorem dJ5_init_d00df_30 : decode cJ5_init_d00df 30 = .ok (.putfield 15, 3) := dk_u2 (y := 0) (z := 15) dk_g181 (by decide +kernel) rfl
theorem dJ5_init_d00df_33 : decode cJ5_init_d00df 33 = .ok (.aload_n 0, 1) := dk_n (t := []) dk_g42 (by decide +kernel)
theorem dJ5_init_d00df_34 : decode cJ5_init_d00df 34 = .ok (.iconst 1, 1) := dk_n (t := []) dk_g4 (by decide +kernel)
theorem dJ5_init_d00df_35 : decode cJ5_init_d00df 35 = .ok (.putfield 22, 3) := dk_u2 (y := 0) (z := 22) dk_g181 (by decide +kernel) rfl
theorem dJ5_init_d00df_38 : decode cJ5_init_d00df 38 = .ok (.return_, 1) := dk_n (t := []) dk_g177 (by decide +kernel)
theorem dJ5_init_a7421_0 : decode cJ5_init_a7421 0 = .ok (.aload_n 0, 1) := dk_n (t := []) dk_g42 (by decide +kernel)
theorem dJ5_init_a7421_1 : decode cJ5_init_a7421 1 = .ok (.invokespecial 3, 3) := dk_u2 (y := 0) (z := 3) dk_g183 (by decide +kernel) rfl
theorem dJ5_init_a7421_4 : decode cJ5_init_a7421 4 = .ok (.aload_n 1, 1) := dk_n (t := []) dk_g43 (by decide +kernel)
theorem dJ5_init_a7421_5 : decode cJ5_init_a7421 5 = .ok (.invokevirtual 32, 3) := dk_u2 (y := 0) (z := 32) dk_g182 (by decide +kernel) rfl
theorem dJ5_init_a7421_8 : decode cJ5_init_a7421 8 = .ok (.istore_n 2, 1) := dk_n (t := []) dk_g61 (by decide +kernel)
theorem dJ5_init_a7421_9 : decode cJ5_init_a7421 9 = .ok (.iload_n 2, 1) := dk_n (t := []) dk_g28 (by decide +kernel)
theorem dJ5_init_a7421_10 : decode cJ5_init_a7421 10 = .ok (.ldc 38, 2) := dk_u1 (y := 38) dk_g18 (by decide +kernel)
theorem dJ5_init_a7421_12 : decode cJ5_init_a7421 12 = .ok (.if_icmp .ge 10, 3) := dk_s2 (y := 0) (z := 10) dk_g162 (by decide +kernel) rfl
theorem dJ5_init_a7421_15 : decode cJ5_init_a7421 15 = .ok (.iload_n 2, 1) := dk_n (t := []) dk_g28 (by decide +kernel)
theorem dJ5_init_a7421_16 : decode cJ5_init_a7421 16 = .ok (.bipush 16, 2) := dk_s1 (y := 16) dk_g16 (by decide +kernel) rfl
theorem dJ5_init_a7421_18 : decode cJ5_init_a7421 18 = .ok (.iadd, 1) := dk_n (t := []) dk_g96 (by decide +kernel)
theorem dJ5_init_a7421_19 : decode cJ5_init_a7421 19 = .ok (.goto 5, 3) := dk_s2 (y := 0) (z := 5) dk_g167 (by decide +kernel) rfl
theorem dJ5_init_a7421_22 : decode cJ5_init_a7421 22 = .ok (.ldc 39, 2) := dk_u1 (y := 39) dk_g18 (by decide +kernel)
theorem dJ5_init_a7421_24 : decode cJ5_init_a7421 24 = .ok (.istore_n 3, 1) := dk_n (t := []) dk_g62 (by decide +kernel)
theorem dJ5_init_a7421_25 : decode cJ5_init_a7421 25 = .ok (.aload_n 1, 1) := dk_n (t := []) dk_g43 (by decide +kernel)
theorem dJ5_init_a7421_26 : decode cJ5_init_a7421 26 = .ok (.invokevirtual 40, 3) := dk_u2 (y := 0) (z := 40) dk_g182 (by decide +kernel) rfl
theorem dJ5_init_a7421_29 : decode cJ5_init_a7421 29 = .ok (.istore 4, 2) := dk_u1 (y := 4) dk_g54 (by decide +kernel)
theorem dJ5_init_a7421_31 : decode cJ5_init_a7421 31 = .ok (.aload_n 0, 1) := dk_n (t := []) dk_g42 (by decide +kernel)
theorem dJ5_init_a7421_32 : decode cJ5_init_a7421 32 = .ok (.iload 4, 2) := dk_u1 (y := 4) dk_g21 (by decide +kernel)
theorem dJ5_init_a7421_34 : decode cJ5_init_a7421 34 = .ok (.putfield 22, 3) := dk_u2 (y := 0) (z := 22) dk_g181 (by decide +kernel) rfl
theorem dJ5_init_a7421_37 : decode cJ5_init_a7421 37 = .ok (.aload_n 0, 1) := dk_n (t := []) dk_g42 (by decide +kernel)
theorem dJ5_init_a7421_38 : decode cJ5_init_a7421 38 = .ok (.iload 4, 2) := dk_u1 (y := 4) dk_g21 (by decide +kernel)
theorem dJ5_init_a7421_40 : decode cJ5_init_a7421 40 = .ok (.ifCond .ne 9, 3) := dk_s2 (y := 0) (z := 9) dk_g154 (by decide +kernel) rfl
theorem dJ5_init_a7421_43 : decode cJ5_init_a7421 43 = .ok (.iload_n 3, 1) := dk_n (t := []) dk_g29 (by decide +kernel)
theorem dJ5_init_a7421_44 : decode cJ5_init_a7421 44 = .ok (.newarray .byte, 2) := by decide +kernel
theorem dJ5_init_a7421_46 : decode cJ5_init_a7421 46 = .ok (.goto 7, 3) := dk_s2 (y := 0) (z := 7) dk_g167 (by decide +kernel) rfl
theorem dJ5_init_a7421_49 : decode cJ5_init_a7421 49 = .ok (.iload_n 3, 1) := dk_n (t := []) dk_g29 (by decide +kernel)
theorem dJ5_init_a7421_50 : decode cJ5_init_a7421 50 = .ok (.invokestatic 26, 3) := dk_u2 (y := 0) (z := 26) dk_g184 (by decide +kernel) rfl
theorem dJ5_init_a7421_53 : decode cJ5_init_a7421 53 = .ok (.putfield 15, 3) := dk_u2 (y := 0) (z := 15) dk_g181 (by decide +kernel) rfl
theorem dJ5_init_a7421_56 : decode cJ5_init_a7421 56 = .ok (.aload_n 0, 1) := dk_n (t := []) dk_g42 (by decide +kernel)
theorem dJ5_init_a7421_57 : decode cJ5_init_a7421 57 = .ok (.aload_n 1, 1) := dk_n (t := []) dk_g43 (by decide +kernel)
theorem dJ5_init_a7421_58 : decode cJ5_init_a7421 58 = .ok (.invokevirtual 43, 3) := dk_u2 (y := 0) (z := 43) dk_g182 (by decide +kernel) rfl
theorem dJ5_init_a7421_61 : decode cJ5_init_a7421 61 = .ok (.pop, 1) := dk_n (t := []) dk_g87 (by decide +kernel)
theorem dJ5_init_a7421_62 : decode cJ5_init_a7421 62 = .ok (.return_, 1) := dk_n (t := []) dk_g177 (by decide +kernel)
theorem dJ5_length_8abf5_0 : decode cJ5_length_8abf5 0 = .ok (.aload_n 0, 1) := dk_n (t := []) dk_g42 (by decide +kernel)
theorem dJ5_length_8abf5_1 : decode cJ5_length_8abf5 1 = .ok (.getfield 79, 3) := dk_u2 (y := 0) (z := 79) dk_g180 (by decide +kernel) rfl
theorem dJ5_length_8abf5_4 : decode cJ5_length_8abf5 4 = .ok (.ireturn, 1) := dk_n (t := []) dk_g172 (by decide +kernel)
theorem dJ5_ensureCapacityInternal_d00df_0 : decode cJ5_ensureCapacityInternal_d00df 0 = .ok (.aload_n 0, 1) := dk_n (t := []) dk_g42 (by decide +kernel)
theorem dJ5_ensureCapacityInternal_d00df_1 : decode cJ5_ensureCapacityInternal_d00df 1 = .ok (.getfield 15, 3) := dk_u2 (y := 0) (z := 15) dk_g180 (by decide +kernel) rfl
theorem dJ5_ensureCapacityInternal_d00df_4 : decode cJ5_ensureCapacityInternal_d00df 4 = .ok (.arraylength, 1) := dk_n (t := []) dk_g190 (by decide +kernel)
theorem dJ5_ensureCapacityInternal_d00df_5 : decode cJ5_ensureCapacityInternal_d00df 5 = .ok (.aload_n 0, 1) := dk_n (t := []) dk_g42 (by decide +kernel)
theorem dJ5_ensureCapacityInternal_d00df_6 : decode cJ5_ensureCapacityInternal_d00df 6 = .ok (.getfield 22, 3) := dk_u2 (y := 0) (z := 22) dk_g180 (by decide +kernel) rfl
theorem dJ5_ensureCapacityInternal_d00df_9 : decode cJ5_ensureCapacityInternal_d00df 9 = .ok (.ishr, 1) := dk_n (t := []) dk_g122 (by decide +kernel)
theorem dJ5_ensureCapacityInternal_d00df_10 : decode cJ5_ensureCapacityInternal_d00df 10 = .ok (.istore_n 2, 1) := dk_n (t := []) dk_g61 (by decide +kernel)
theorem dJ5_ensureCapacityInternal_d00df_11 : decode cJ5_ensureCapacityInternal_d00df 11 = .ok (.iload_n 1, 1) := dk_n (t := []) dk_g27 (by decide +kernel)
theorem dJ5_ensureCapacityInternal_d00df_12 : decode cJ5_ensureCapacityInternal_d00df 12 = .ok (.iload_n 2, 1) := dk_n (t := []) dk_g28 (by decide +kernel)
theorem dJ5_ensureCapacityInternal_d00df_13 : decode cJ5_ensureCapacityInternal_d00df 13 = .ok (.isub, 1) := dk_n (t := []) dk_g100 (by decide +kernel)
theorem dJ5_ensureCapacityInternal_d00df_14 : decode cJ5_ensureCapacityInternal_d00df 14 = .ok (.ifCond .le 24, 3) := dk_s2 (y := 0) (z := 24) dk_g158 (by decide +kernel) rfl
theorem dJ5_ensureCapacityInternal_d00df_17 : decode cJ5_ensureCapacityInternal_d00df 17 = .ok (.aload_n 0, 1) := dk_n (t := []) dk_g42 (by decide +kernel)
theorem dJ5_ensureCapacityInternal_d00df_18 : decode cJ5_ensureCapacityInternal_d00df 18 = .ok (.aload_n 0, 1) := dk_n (t := []) dk_g42 (by decide +kernel)
theorem dJ5_ensureCapacityInternal_d00df_19 : decode cJ5_ensureCapacityInternal_d00df 19 = .ok (.getfield 15, 3) := dk_u2 (y := 0) (z := 15) dk_g180 (by decide +kernel) rfl
theorem dJ5_ensureCapacityInternal_d00df_22 : decode cJ5_ensureCapacityInternal_d00df 22 = .ok (.aload_n 0, 1) := dk_n (t := []) dk_g42 (by decide +kernel)
theorem dJ5_ensureCapacityInternal_d00df_23 : decode cJ5_ensureCapacityInternal_d00df 23 = .ok (.iload_n 1, 1) := dk_n (t := []) dk_g27 (by decide +kernel)
theorem dJ5_ensureCapacityInternal_d00df_24 : decode cJ5_ensureCapacityInternal_d00df 24 = .ok (.invokevirtual 104, 3) := dk_u2 (y := 0) (z := 104) dk_g182 (by decide +kernel) rfl
theorem dJ5_ensureCapacityInternal_d00df_27 : decode cJ5_ensureCapacityInternal_d00df 27 = .ok (.aload_n 0, 1) := dk_n (t := []) dk_g42 (by decide +kernel)
theorem dJ5_ensureCapacityInternal_d00df_28 : decode cJ5_ensureCapacityInternal_d00df 28 = .ok (.getfield 22, 3) := dk_u2 (y := 0) (z := 22) dk_g180 (by decide +kernel) rfl
theorem dJ5_ensureCapacityInternal_d00df_31 : decode cJ5_ensureCapacityInternal_d00df 31 = .ok (.ishl, 1) := dk_n (t := []) dk_g120 (by decide +kernel)
theorem dJ5_ensureCapacityInternal_d00df_32 : decode cJ5_ensureCapacityInternal_d00df 32 = .ok (.invokestatic 108, 3) := dk_u2 (y := 0) (z := 108) dk_g184 (by decide +kernel) rfl
theorem dJ5_ensureCapacityInternal_d00df_35 : decode cJ5_ensureCapacityInternal_d00df 35 = .ok (.putfield 15, 3) := dk_u2 (y := 0) (z := 15) dk_g181 (by decide +kernel) rfl
theorem dJ5_ensureCapacityInternal_d00df_38 : decode cJ5_ensureCapacityInternal_d00df 38 = .ok (.return_, 1) := dk_n (t := []) dk_g177 (by decide +kernel)
theorem dJ5_newCapacity_0f7a4_0 : decode cJ5_newCapacity_0f7a4 0 = .ok (.aload_n 0, 1) := dk_n (t := []) dk_g42 (by decide +kernel)
theorem dJ5_newCapacity_0f7a4_1 : decode cJ5_newCapacity_0f7a4 1 = .ok (.getfield 15, 3) := dk_u2 (y := 0) (z := 15) dk_g180 (by decide +kernel) rfl
theorem dJ5_newCapacity_0f7a4_4 : decode cJ5_newCapacity_0f7a4 4 = .ok (.arraylength, 1) := dk_n (t := []) dk_g190 (by decide +kernel)
theorem dJ5_newCapacity_0f7a4_5 : decode cJ5_newCapacity_0f7a4 5 = .ok (.istore_n 2, 1) := dk_n (t := []) dk_g61 (by decide +kernel)
theorem dJ5_newCapacity_0f7a4_6 : decode cJ5_newCapacity_0f7a4 6 = .ok (.iload_n 1, 1) := dk_n (t := []) dk_g27 (by decide +kernel)
theorem dJ5_newCapacity_0f7a4_7 : decode cJ5_newCapacity_0f7a4 7 = .ok (.aload_n 0, 1) := dk_n (t := []) dk_g42 (by decide +kernel)
theorem dJ5_newCapacity_0f7a4_8 : decode cJ5_newCapacity_0f7a4 8 = .ok (.getfield 22, 3) := dk_u2 (y := 0) (z := 22) dk_g180 (by decide +kernel) rfl
theorem dJ5_newCapacity_0f7a4_11 : decode cJ5_newCapacity_0f7a4 11 = .ok (.ishl, 1) := dk_n (t := []) dk_g120 (by decide +kernel)
theorem dJ5_newCapacity_0f7a4_12 : decode cJ5_newCapacity_0f7a4 12 = .ok (.istore_n 3, 1) := dk_n (t := []) dk_g62 (by decide +kernel)
theorem dJ5_newCapacity_0f7a4_13 : decode cJ5_newCapacity_0f7a4 13 = .ok (.iload_n 3, 1) := dk_n (t := []) dk_g29 (by decide +kernel)
theorem dJ5_newCapacity_0f7a4_14 : decode cJ5_newCapacity_0f7a4 14 = .ok (.iload_n 2, 1) := dk_n (t := []) dk_g28 (by decide +kernel)
theorem dJ5_newCapacity_0f7a4_15 : decode cJ5_newCapacity_0f7a4 15 = .ok (.isub, 1) := dk_n (t := []) dk_g100 (by decide +kernel)
theorem dJ5_newCapacity_0f7a4_16 : decode cJ5_newCapacity_0f7a4 16 = .ok (.istore 4, 2) := dk_u1 (y := 4) dk_g54 (by decide +kernel)
theorem dJ5_newCapacity_0f7a4_18 : decode cJ5_newCapacity_0f7a4 18 = .ok (.iload_n 2, 1) := dk_n (t := []) dk_g28 (by decide +kernel)
theorem dJ5_newCapacity_0f7a4_19 : decode cJ5_newCapacity_0f7a4 19 = .ok (.iload 4, 2) := dk_u1 (y := 4) dk_g21 (by decide +kernel)
theorem dJ5_newCapacity_0f7a4_21 : decode cJ5_newCapacity_0f7a4 21 = .ok (.iload_n 2, 1) := dk_n (t := []) dk_g28 (by decide +kernel)
theorem dJ5_newCapacity_0f7a4_22 : decode cJ5_newCapacity_0f7a4 22 = .ok (.iconst 2, 1) := dk_n (t := []) dk_g5 (by decide +kernel)
theorem dJ5_newCapacity_0f7a4_23 : decode cJ5_newCapacity_0f7a4 23 = .ok (.aload_n 0, 1) := dk_n (t := []) dk_g42 (by decide +kernel)
theorem dJ5_newCapacity_0f7a4_24 : decode cJ5_newCapacity_0f7a4 24 = .ok (.getfield 22, 3) := dk_u2 (y := 0) (z := 22) dk_g180 (by decide +kernel) rfl
theorem dJ5_newCapacity_0f7a4_27 : decode cJ5_newCapacity_0f7a4 27 = .ok (.ishl, 1) := dk_n (t := []) dk_g120 (by decide +kernel)
theorem dJ5_newCapacity_0f7a4_28 : decode cJ5_newCapacity_0f7a4 28 = .ok (.iadd, 1) := dk_n (t := []) dk_g96 (by decide +kernel)
theorem dJ5_newCapacity_0f7a4_29 : decode cJ5_newCapacity_0f7a4 29 = .ok (.invokestatic 114, 3) := dk_u2 (y := 0) (z := 114) dk_g184 (by decide +kernel) rfl
theorem dJ5_newCapacity_0f7a4_32 : decode cJ5_newCapacity_0f7a4 32 = .ok (.istore 5, 2) := dk_u1 (y := 5) dk_g54 (by decide +kernel)
theorem dJ5_newCapacity_0f7a4_34 : decode cJ5_newCapacity_0f7a4 34 = .ok (.iload 5, 2) := dk_u1 (y := 5) dk_g21 (by decide +kernel)
theorem dJ5_newCapacity_0f7a4_36 : decode cJ5_newCapacity_0f7a4 36 = .ok (.ldc 39, 2) := dk_u1 (y := 39) dk_g18 (by decide +kernel)
theorem dJ5_newCapacity_0f7a4_38 : decode cJ5_newCapacity_0f7a4 38 = .ok (.if_icmp .ne 13, 3) := dk_s2 (y := 0) (z := 13) dk_g160 (by decide +kernel) rfl
theorem dJ5_newCapacity_0f7a4_41 : decode cJ5_newCapacity_0f7a4 41 = .ok (.new 120, 3) := dk_u2 (y := 0) (z := 120) dk_g187 (by decide +kernel) rfl
theorem dJ5_newCapacity_0f7a4_44 : decode cJ5_newCapacity_0f7a4 44 = .ok (.dup, 1) := dk_n (t := []) dk_g89 (by decide +kernel)
theorem dJ5_newCapacity_0f7a4_45 : decode cJ5_newCapacity_0f7a4 45 = .ok (.ldc 122, 2) := dk_u1 (y := 122) dk_g18 (by decide +kernel)
theorem dJ5_newCapacity_0f7a4_47 : decode cJ5_newCapacity_0f7a4 47 = .ok (.invokespecial 124, 3) := dk_u2 (y := 0) (z := 124) dk_g183 (by decide +kernel) rfl
theorem dJ5_newCapacity_0f7a4_50 : decode cJ5_newCapacity_0f7a4 50 = .ok (.athrow, 1) := dk_n (t := []) dk_g191 (by decide +kernel)
theorem dJ5_newCapacity_0f7a4_51 : decode cJ5_newCapacity_0f7a4 51 = .ok (.iload 5, 2) := dk_u1 (y := 5) dk_g21 (by decide +kernel)
theorem dJ5_newCapacity_0f7a4_53 : decode cJ5_newCapacity_0f7a4 53 = .ok (.aload_n 0, 1) := dk_n (t := []) dk_g42 (by decide +kernel)
theorem dJ5_newCapacity_0f7a4_54 : decode cJ5_newCapacity_0f7a4 54 = .ok (.getfield 22, 3) := dk_u2 (y := 0) (z := 22) dk_g180 (by decide +kernel) rfl
theorem dJ5_newCapacity_0f7a4_57 : decode cJ5_newCapacity_0f7a4 57 = .ok (.ishr, 1) := dk_n (t := []) dk_g122 (by decide +kernel)
theorem dJ5_newCapacity_0f7a4_58 : decode cJ5_newCapacity_0f7a4 58 = .ok (.ireturn, 1) := dk_n (t := []) dk_g172 (by decide +kernel)
theorem dJ5_inflate_da8c8_0 : decode cJ5_inflate_da8c8 0 = .ok (.aload_n 0, 1) := dk_n (t := []) dk_g42 (by decide +kernel)
theorem dJ5_inflate_da8c8_1 : decode cJ5_inflate_da8c8 1 = .ok (.invokevirtual 83, 3) := dk_u2 (y := 0) (z := 83) dk_g182 (by decide +kernel) rfl
theorem dJ5_inflate_da8c8_4 : decode cJ5_inflate_da8c8 4 = .ok (.ifCond .ne 4, 3) := dk_s2 (y := 0) (z := 4) dk_g154 (by decide +kernel) rfl
theorem dJ5_inflate_da8c8_7 : decode cJ5_inflate_da8c8 7 = .ok (.return_, 1) := dk_n (t := []) dk_g177 (by decide +kernel)
theorem dJ5_inflate_da8c8_8 : decode cJ5_inflate_da8c8 8 = .ok (.aload_n 0, 1) := dk_n (t := []) dk_g42 (by decide +kernel)
theorem dJ5_inflate_da8c8_9 : decode cJ5_inflate_da8c8 9 = .ok (.getfield 15, 3) := dk_u2 (y := 0) (z := 15) dk_g180 (by decide +kernel) rfl
theorem dJ5_inflate_da8c8_12 : decode cJ5_inflate_da8c8 12 = .ok (.arraylength, 1) := dk_n (t := []) dk_g190 (by decide +kernel)
theorem dJ5_inflate_da8c8_13 : decode cJ5_inflate_da8c8 13 = .ok (.invokestatic 26, 3) := dk_u2 (y := 0) (z := 26) dk_g184 (by decide +kernel) rfl
theorem dJ5_inflate_da8c8_16 : decode cJ5_inflate_da8c8 16 = .ok (.astore_n 1, 1) := dk_n (t := []) dk_g76 (by decide +kernel)
theorem dJ5_inflate_da8c8_17 : decode cJ5_inflate_da8c8 17 = .ok (.aload_n 0, 1) := dk_n (t := []) dk_g42 (by decide +kernel)
theorem dJ5_inflate_da8c8_18 : decode cJ5_inflate_da8c8 18 = .ok (.getfield 15, 3) := dk_u2 (y := 0) (z := 15) dk_g180 (by decide +kernel) rfl
theorem dJ5_inflate_da8c8_21 : decode cJ5_inflate_da8c8 21 = .ok (.iconst 0, 1) := dk_n (t := []) dk_g3 (by decide +kernel)
theorem dJ5_inflate_da8c8_22 : decode cJ5_inflate_da8c8 22 = .ok (.aload_n 1, 1) := dk_n (t := []) dk_g43 (by decide +kernel)
theorem dJ5_inflate_da8c8_23 : decode cJ5_inflate_da8c8 23 = .ok (.iconst 0, 1) := dk_n (t := []) dk_g3 (by decide +kernel)
theorem dJ5_inflate_da8c8_24 : decode cJ5_inflate_da8c8 24 = .ok (.aload_n 0, 1) := dk_n (t := []) dk_g42 (by decide +kernel)
theorem dJ5_inflate_da8c8_25 : decode cJ5_inflate_da8c8 25 = .ok (.getfield 79, 3) := dk_u2 (y := 0) (z := 79) dk_g180 (by decide +kernel) rfl
theorem dJ5_inflate_da8c8_28 : decode cJ5_inflate_da8c8 28 = .ok (.invokestatic 125, 3) := dk_u2 (y := 0) (z := 125) dk_g184 (by decide +kernel) rfl
theorem dJ5_inflate_da8c8_31 : decode cJ5_inflate_da8c8 31 = .ok (.aload_n 0, 1) := dk_n (t := []) dk_g42 (by decide +kernel)
theorem dJ5_inflate_da8c8_32 : decode cJ5_inflate_da8c8 32 = .ok (.aload_n 1, 1) := dk_n (t := []) dk_g43 (by decide +kernel)
theorem dJ5_inflate_da8c8_33 : decode cJ5_inflate_da8c8 33 = .ok (.putfield 15, 3) := dk_u2 (y := 0) (z := 15) dk_g181 (by decide +kernel) rfl
theorem dJ5_inflate_da8c8_36 : decode cJ5_inflate_da8c8 36 = .ok (.aload_n 0, 1) := dk_n (t := []) dk_g42 (by decide +kernel)
theorem dJ5_inflate_da8c8_37 : decode cJ5_inflate_da8c8 37 = .ok (.iconst 1, 1) := dk_n (t := []) dk_g4 (by decide +kernel)
theorem dJ5_inflate_da8c8_38 : decode cJ5_inflate_da8c8 38 = .ok (.putfield 22, 3) := dk_u2 (y := 0) (z := 22) dk_g181 (by decide +kernel) rfl
theorem dJ5_inflate_da8c8_41 : decode cJ5_inflate_da8c8 41 = .ok (.return_, 1) := dk_n (t := []) dk_g177 (by decide +kernel)
theorem dJ5_append_cf1ce_0 : decode cJ5_append_cf1ce 0 = .ok (.aload_n 1, 1) := dk_n (t := []) dk_g43 (by decide +kernel)
theorem dJ5_append_cf1ce_1 : decode cJ5_append_cf1ce 1 = .ok (.ifnonnull 8, 3) := dk_s2 (y := 0) (z := 8) dk_g199 (by decide +kernel) rfl
theorem dJ5_append_cf1ce_4 : decode cJ5_append_cf1ce 4 = .ok (.aload_n 0, 1) := dk_n (t := []) dk_g42 (by decide +kernel)
theorem dJ5_append_cf1ce_5 : decode cJ5_append_cf1ce 5 = .ok (.invokevirtual 204, 3) := dk_u2 (y := 0) (z := 204) dk_g182 (by decide +kernel) rfl
theorem dJ5_append_cf1ce_8 : decode cJ5_append_cf1ce 8 = .ok (.areturn, 1) := dk_n (t := []) dk_g176 (by decide +kernel)
theorem dJ5_append_cf1ce_9 : decode cJ5_append_cf1ce 9 = .ok (.aload_n 1, 1) := dk_n (t := []) dk_g43 (by decide +kernel)
theorem dJ5_append_cf1ce_10 : decode cJ5_append_cf1ce 10 = .ok (.invokevirtual 32, 3) := dk_u2 (y := 0) (z := 32) dk_g182 (by decide +kernel) rfl
theorem dJ5_append_cf1ce_13 : decode cJ5_append_cf1ce 13 = .ok (.istore_n 2, 1) := dk_n (t := []) dk_g61 (by decide +kernel)
theorem dJ5_append_cf1ce_14 : decode cJ5_append_cf1ce 14 = .ok (.aload_n 0, 1) := dk_n (t := []) dk_g42 (by decide +kernel)
theorem dJ5_append_cf1ce_15 : decode cJ5_append_cf1ce 15 = .ok (.aload_n 0, 1) := dk_n (t := []) dk_g42 (by decide +kernel)
theorem dJ5_append_cf1ce_16 : decode cJ5_append_cf1ce 16 = .ok (.getfield 79, 3) := dk_u2 (y := 0) (z := 79) dk_g180 (by decide +kernel) rfl
theorem dJ5_append_cf1ce_19 : decode cJ5_append_cf1ce 19 = .ok (.iload_n 2, 1) := dk_n (t := []) dk_g28 (by decide +kernel)
theorem dJ5_append_cf1ce_20 : decode cJ5_append_cf1ce 20 = .ok (.iadd, 1) := dk_n (t := []) dk_g96 (by decide +kernel)
theorem dJ5_append_cf1ce_21 : decode cJ5_append_cf1ce 21 = .ok (.invokevirtual 100, 3) := dk_u2 (y := 0) (z := 100) dk_g182 (by decide +kernel) rfl
theorem dJ5_append_cf1ce_24 : decode cJ5_append_cf1ce 24 = .ok (.aload_n 0, 1) := dk_n (t := []) dk_g42 (by decide +kernel)
theorem dJ5_append_cf1ce_25 : decode cJ5_append_cf1ce 25 = .ok (.aload_n 0, 1) := dk_n (t := []) dk_g42 (by decide +kernel)
theorem dJ5_append_cf1ce_26 : decode cJ5_append_cf1ce 26 = .ok (.getfield 79, 3) := dk_u2 (y := 0) (z := 79) dk_g180 (by decide +kernel) rfl
theorem dJ5_append_cf1ce_29 : decode cJ5_append_cf1ce 29 = .ok (.aload_n 1, 1) := dk_n (t := []) dk_g43 (by decide +kernel)
theorem dJ5_append_cf1ce_30 : decode cJ5_append_cf1ce 30 = .ok (.invokevirtual 208, 3) := dk_u2 (y := 0) (z := 208) dk_g182 (by decide +kernel) rfl
theorem dJ5_append_cf1ce_33 : decode cJ5_append_cf1ce 33 = .ok (.aload_n 0, 1) := dk_n (t := []) dk_g42 (by decide +kernel)
theorem dJ5_append_cf1ce_34 : decode cJ5_append_cf1ce 34 = .ok (.dup, 1) := dk_n (t := []) dk_g89 (by decide +kernel)
theorem dJ5_append_cf1ce_35 : decode cJ5_append_cf1ce 35 = .ok (.getfield 79, 3) := dk_u2 (y := 0) (z := 79) dk_g180 (by decide +kernel) rfl
theorem dJ5_append_cf1ce_38 : decode cJ5_append_cf1ce 38 = .ok (.iload_n 2, 1) := dk_n (t := []) dk_g28 (by decide +kernel)
theorem dJ5_append_cf1ce_39 : decode cJ5_append_cf1ce 39 = .ok (.iadd, 1) := dk_n (t := []) dk_g96 (by decide +kernel)
theorem dJ5_append_cf1ce_40 : decode cJ5_append_cf1ce 40 = .ok (.putfield 79, 3) := dk_u2 (y := 0) (z := 79) dk_g181 (by decide +kernel) rfl
theorem dJ5_append_cf1ce_43 : decode cJ5_append_cf1ce 43 = .ok (.aload_n 0, 1) := dk_n (t := []) dk_g42 (by decide +kernel)
theorem dJ5_append_cf1ce_44 : decode cJ5_append_cf1ce 44 = .ok (.areturn, 1) := dk_n (t := []) dk_g176 (by decide +kernel)
theorem dJ5_appendNull_278bc_0 : decode cJ5_appendNull_278bc 0 = .ok (.aload_n 0, 1) := dk_n (t := []) dk_g42 (by decide +kernel)
theorem dJ5_appendNull_278bc_1 : decode cJ5_appendNull_278bc 1 = .ok (.aload_n 0, 1) := dk_n (t := []) dk_g42 (by decide +kernel)
theorem dJ5_appendNull_278bc_2 : decode cJ5_appendNull_278bc 2 = .ok (.getfield 79, 3) := dk_u2 (y := 0) (z := 79) dk_g180 (by decide +kernel) rfl
theorem dJ5_appendNull_278bc_5 : decode cJ5_appendNull_278bc 5 = .ok (.iconst 4, 1) := dk_n (t := []) dk_g7 (by decide +kernel)
theorem dJ5_appendNull_278bc_6 : decode cJ5_appendNull_278bc 6 = .ok (.iadd, 1) := dk_n (t := []) dk_g96 (by decide +kernel)
theorem dJ5_appendNull_278bc_7 : decode cJ5_appendNull_278bc 7 = .ok (.invokevirtual 100, 3) := dk_u2 (y := 0) (z := 100) dk_g182 (by decide +kernel) rfl
theorem dJ5_appendNull_278bc_10 : decode cJ5_appendNull_278bc 10 = .ok (.aload_n 0, 1) := dk_n (t := []) dk_g42 (by decide +kernel)
theorem dJ5_appendNull_278bc_11 : decode cJ5_appendNull_278bc 11 = .ok (.getfield 79, 3) := dk_u2 (y := 0) (z := 79) dk_g180 (by decide +kernel) rfl
theorem dJ5_appendNull_278bc_14 : decode cJ5_appendNull_278bc 14 = .ok (.istore_n 1, 1) := dk_n (t := []) dk_g60 (by decide +kernel)
theorem dJ5_appendNull_278bc_15 : decode cJ5_appendNull_278bc 15 = .ok (.aload_n 0, 1) := dk_n (t := []) dk_g42 (by decide +kernel)
theorem dJ5_appendNull_278bc_16 : decode cJ5_appendNull_278bc 16 = .ok (.getfield 15, 3) := dk_u2 (y := 0) (z := 15) dk_g180 (by decide +kernel) rfl
theorem dJ5_appendNull_278bc_19 : decode cJ5_appendNull_278bc 19 = .ok (.astore_n 2, 1) := dk_n (t := []) dk_g77 (by decide +kernel)
theorem dJ5_appendNull_278bc_20 : decode cJ5_appendNull_278bc 20 = .ok (.aload_n 0, 1) := dk_n (t := []) dk_g42 (by decide +kernel)
theorem dJ5_appendNull_278bc_21 : decode cJ5_appendNull_278bc 21 = .ok (.invokevirtual 83, 3) := dk_u2 (y := 0) (z := 83) dk_g182 (by decide +kernel) rfl
theorem dJ5_appendNull_278bc_24 : decode cJ5_appendNull_278bc 24 = .ok (.ifCond .eq 38, 3) := dk_s2 (y := 0) (z := 38) dk_g153 (by decide +kernel) rfl
theorem dJ5_appendNull_278bc_27 : decode cJ5_appendNull_278bc 27 = .ok (.aload_n 2, 1) := dk_n (t := []) dk_g44 (by decide +kernel)
theorem dJ5_appendNull_278bc_28 : decode cJ5_appendNull_278bc 28 = .ok (.iload_n 1, 1) := dk_n (t := []) dk_g27 (by decide +kernel)
theorem dJ5_appendNull_278bc_29 : decode cJ5_appendNull_278bc 29 = .ok (.iinc 1 1, 3) := dk_ii (y := 1) (z := 1) dk_g132 (by decide +kernel) rfl
theorem dJ5_appendNull_278bc_32 : decode cJ5_appendNull_278bc 32 = .ok (.bipush 110, 2) := dk_s1 (y := 110) dk_g16 (by decide +kernel) rfl
theorem dJ5_appendNull_278bc_34 : decode cJ5_appendNull_278bc 34 = .ok (.bastore, 1) := dk_n (t := []) dk_g84 (by decide +kernel)
theorem dJ5_appendNull_278bc_35 : decode cJ5_appendNull_278bc 35 = .ok (.aload_n 2, 1) := dk_n (t := []) dk_g44 (by decide +kernel)
theorem dJ5_appendNull_278bc_36 : decode cJ5_appendNull_278bc 36 = .ok (.iload_n 1, 1) := dk_n (t := []) dk_g27 (by decide +kernel)
theorem dJ5_appendNull_278bc_37 : decode cJ5_appendNull_278bc 37 = .ok (.iinc 1 1, 3) := dk_ii (y := 1) (z := 1) dk_g132 (by decide +kernel) rfl
theorem dJ5_appendNull_278bc_40 : decode cJ5_appendNull_278bc 40 = .ok (.bipush 117, 2) := dk_s1 (y := 117) dk_g16 (by decide +kernel) rfl
theorem dJ5_appendNull_278bc_42 : decode cJ5_appendNull_278bc 42 = .ok (.bastore, 1) := dk_n (t := []) dk_g84 (by decide +kernel)
theorem dJ5_appendNull_278bc_43 : decode cJ5_appendNull_278bc 43 = .ok (.aload_n 2, 1) := dk_n (t := []) dk_g44 (by decide +kernel)
theorem dJ5_appendNull_278bc_44 : decode cJ5_appendNull_278bc 44 = .ok (.iload_n 1, 1) := dk_n (t := []) dk_g27 (by decide +kernel)
theorem dJ5_appendNull_278bc_45 : decode cJ5_appendNull_278bc 45 = .ok (.iinc 1 1, 3) := dk_ii (y := 1) (z := 1) dk_g132 (by decide +kernel) rfl
theorem dJ5_appendNull_278bc_48 : decode cJ5_appendNull_278bc 48 = .ok (.bipush 108, 2) := dk_s1 (y := 108) dk_g16 (by decide +kernel) rfl
theorem dJ5_appendNull_278bc_50 : decode cJ5_appendNull_278bc 50 = .ok (.bastore, 1) := dk_n (t := []) dk_g84 (by decide +kernel)
theorem dJ5_appendNull_278bc_51 : decode cJ5_appendNull_278bc 51 = .ok (.aload_n 2, 1) := dk_n (t := []) dk_g44 (by decide +kernel)
theorem dJ5_appendNull_278bc_52 : decode cJ5_appendNull_278bc 52 = .ok (.iload_n 1, 1) := dk_n (t := []) dk_g27 (by decide +kernel)
theorem dJ5_appendNull_278bc_53 : decode cJ5_appendNull_278bc 53 = .ok (.iinc 1 1, 3) := dk_ii (y := 1) (z := 1) dk_g132 (by decide +kernel) rfl
theorem dJ5_appendNull_278bc_56 : decode cJ5_appendNull_278bc 56 = .ok (.bipush 108, 2) := dk_s1 (y := 108) dk_g16 (by decide +kernel) rfl
theorem dJ5_appendNull_278bc_58 : decode cJ5_appendNull_278bc 58 = .ok (.bastore, 1) := dk_n (t := []) dk_g84 (by decide +kernel)
theorem dJ5_appendNull_278bc_59 : decode cJ5_appendNull_278bc 59 = .ok (.goto 17, 3) := dk_s2 (y := 0) (z := 17) dk_g167 (by decide +kernel) rfl
theorem dJ5_appendNull_278bc_62 : decode cJ5_appendNull_278bc 62 = .ok (.aload_n 2, 1) := dk_n (t := []) dk_g44 (by decide +kernel)
theorem dJ5_appendNull_278bc_63 : decode cJ5_appendNull_278bc 63 = .ok (.iload_n 1, 1) := dk_n (t := []) dk_g27 (by decide +kernel)
theorem dJ5_appendNull_278bc_64 : decode cJ5_appendNull_278bc 64 = .ok (.bipush 110, 2) := dk_s1 (y := 110) dk_g16 (by decide +kernel) rfl
theorem dJ5_appendNull_278bc_66 : decode cJ5_appendNull_278bc 66 = .ok (.bipush 117, 2) := dk_s1 (y := 117) dk_g16 (by decide +kernel) rfl
theorem dJ5_appendNull_278bc_68 : decode cJ5_appendNull_278bc 68 = .ok (.bipush 108, 2) := dk_s1 (y := 108) dk_g16 (by decide +kernel) rfl
theorem dJ5_appendNull_278bc_70 : decode cJ5_appendNull_278bc 70 = .ok (.bipush 108, 2) := dk_s1 (y := 108) dk_g16 (by decide +kernel) rfl
theorem dJ5_appendNull_278bc_72 : decode cJ5_appendNull_278bc 72 = .ok (.invokestatic 226, 3) := dk_u2 (y := 0) (z := 226) dk_g184 (by decide +kernel) rfl
theorem dJ5_appendNull_278bc_75 : decode cJ5_appendNull_278bc 75 = .ok (.istore_n 1, 1) := dk_n (t := []) dk_g60 (by decide +kernel)
theorem dJ5_appendNull_278bc_76 : decode cJ5_appendNull_278bc 76 = .ok (.aload_n 0, 1) := dk_n (t := []) dk_g42 (by decide +kernel)
theorem dJ5_appendNull_278bc_77 : decode cJ5_appendNull_278bc 77 = .ok (.iload_n 1, 1) := dk_n (t := []) dk_g27 (by decide +kernel)
theorem dJ5_appendNull_278bc_78 : decode cJ5_appendNull_278bc 78 = .ok (.putfield 79, 3) := dk_u2 (y := 0) (z := 79) dk_g181 (by decide +kernel) rfl
theorem dJ5_appendNull_278bc_81 : decode cJ5_appendNull_278bc 81 = .ok (.aload_n 0, 1) := dk_n (t := []) dk_g42 (by decide +kernel)
theorem dJ5_appendNull_278bc_82 : decode cJ5_appendNull_278bc 82 = .ok (.areturn, 1) := dk_n (t := []) dk_g176 (by decide +kernel)
theorem dJ5_append_3fe6f_0 : decode cJ5_append_3fe6f 0 = .ok (.aload_n 0, 1) := dk_n (t := []) dk_g42 (by decide +kernel)
theorem dJ5_append_3fe6f_1 : decode cJ5_append_3fe6f 1 = .ok (.aload_n 0, 1) := dk_n (t := []) dk_g42 (by decide +kernel)
theorem dJ5_append_3fe6f_2 : decode cJ5_append_3fe6f 2 = .ok (.getfield 79, 3) := dk_u2 (y := 0) (z := 79) dk_g180 (by decide +kernel) rfl
theorem dJ5_append_3fe6f_5 : decode cJ5_append_3fe6f 5 = .ok (.iconst 1, 1) := dk_n (t := []) dk_g4 (by decide +kernel)
theorem dJ5_append_3fe6f_6 : decode cJ5_append_3fe6f 6 = .ok (.iadd, 1) := dk_n (t := []) dk_g96 (by decide +kernel)
theorem dJ5_append_3fe6f_7 : decode cJ5_append_3fe6f 7 = .ok (.invokevirtual 100, 3) := dk_u2 (y := 0) (z := 100) dk_g182 (by decide +kernel) rfl
theorem dJ5_append_3fe6f_10 : decode cJ5_append_3fe6f 10 = .ok (.aload_n 0, 1) := dk_n (t := []) dk_g42 (by decide +kernel)
theorem dJ5_append_3fe6f_11 : decode cJ5_append_3fe6f 11 = .ok (.invokevirtual 83, 3) := dk_u2 (y := 0) (z := 83) dk_g182 (by decide +kernel) rfl
theorem dJ5_append_3fe6f_14 : decode cJ5_append_3fe6f 14 = .ok (.ifCond .eq 31, 3) := dk_s2 (y := 0) (z := 31) dk_g153 (by decide +kernel) rfl
theorem dJ5_append_3fe6f_17 : decode cJ5_append_3fe6f 17 = .ok (.iload_n 1, 1) := dk_n (t := []) dk_g27 (by decide +kernel)
theorem dJ5_append_3fe6f_18 : decode cJ5_append_3fe6f 18 = .ok (.invokestatic 191, 3) := dk_u2 (y := 0) (z := 191) dk_g184 (by decide +kernel) rfl
theorem dJ5_append_3fe6f_21 : decode cJ5_append_3fe6f 21 = .ok (.ifCond .eq 24, 3) := dk_s2 (y := 0) (z := 24) dk_g153 (by decide +kernel) rfl
theorem dJ5_append_3fe6f_24 : decode cJ5_append_3fe6f 24 = .ok (.aload_n 0, 1) := dk_n (t := []) dk_g42 (by decide +kernel)
theorem dJ5_append_3fe6f_25 : decode cJ5_append_3fe6f 25 = .ok (.getfield 15, 3) := dk_u2 (y := 0) (z := 15) dk_g180 (by decide +kernel) rfl
theorem dJ5_append_3fe6f_28 : decode cJ5_append_3fe6f 28 = .ok (.aload_n 0, 1) := dk_n (t := []) dk_g42 (by decide +kernel)
theorem dJ5_append_3fe6f_29 : decode cJ5_append_3fe6f 29 = .ok (.dup, 1) := dk_n (t := []) dk_g89 (by decide +kernel)
theorem dJ5_append_3fe6f_30 : decode cJ5_append_3fe6f 30 = .ok (.getfield 79, 3) := dk_u2 (y := 0) (z := 79) dk_g180 (by decide +kernel) rfl
theorem dJ5_append_3fe6f_33 : decode cJ5_append_3fe6f 33 = .ok (.dup_x1, 1) := dk_n (t := []) dk_g90 (by decide +kernel)
theorem dJ5_append_3fe6f_34 : decode cJ5_append_3fe6f 34 = .ok (.iconst 1, 1) := dk_n (t := []) dk_g4 (by decide +kernel)
theorem dJ5_append_3fe6f_35 : decode cJ5_append_3fe6f 35 = .ok (.iadd, 1) := dk_n (t := []) dk_g96 (by decide +kernel)
theorem dJ5_append_3fe6f_36 : decode cJ5_append_3fe6f 36 = .ok (.putfield 79, 3) := dk_u2 (y := 0) (z := 79) dk_g181 (by decide +kernel) rfl
theorem dJ5_append_3fe6f_39 : decode cJ5_append_3fe6f 39 = .ok (.iload_n 1, 1) := dk_n (t := []) dk_g27 (by decide +kernel)
theorem dJ5_append_3fe6f_40 : decode cJ5_append_3fe6f 40 = .ok (.i2b, 1) := dk_n (t := []) dk_g145 (by decide +kernel)
theorem dJ5_append_3fe6f_41 : decode cJ5_append_3fe6f 41 = .ok (.bastore, 1) := dk_n (t := []) dk_g84 (by decide +kernel)
theorem dJ5_append_3fe6f_42 : decode cJ5_append_3fe6f 42 = .ok (.goto 33, 3) := dk_s2 (y := 0) (z := 33) dk_g167 (by decide +kernel) rfl
theorem dJ5_append_3fe6f_45 : decode cJ5_append_3fe6f 45 = .ok (.aload_n 0, 1) := dk_n (t := []) dk_g42 (by decide +kernel)
theorem dJ5_append_3fe6f_46 : decode cJ5_append_3fe6f 46 = .ok (.invokevirtual 83, 3) := dk_u2 (y := 0) (z := 83) dk_g182 (by decide +kernel) rfl
theorem dJ5_append_3fe6f_49 : decode cJ5_append_3fe6f 49 = .ok (.ifCond .eq 7, 3) := dk_s2 (y := 0) (z := 7) dk_g153 (by decide +kernel) rfl
theorem dJ5_append_3fe6f_52 : decode cJ5_append_3fe6f 52 = .ok (.aload_n 0, 1) := dk_n (t := []) dk_g42 (by decide +kernel)
theorem dJ5_append_3fe6f_53 : decode cJ5_append_3fe6f 53 = .ok (.invokevirtual 195, 3) := dk_u2 (y := 0) (z := 195) dk_g182 (by decide +kernel) rfl
theorem dJ5_append_3fe6f_56 : decode cJ5_append_3fe6f 56 = .ok (.aload_n 0, 1) := dk_n (t := []) dk_g42 (by decide +kernel)
theorem dJ5_append_3fe6f_57 : decode cJ5_append_3fe6f 57 = .ok (.getfield 15, 3) := dk_u2 (y := 0) (z := 15) dk_g180 (by decide +kernel) rfl
theorem dJ5_append_3fe6f_60 : decode cJ5_append_3fe6f 60 = .ok (.aload_n 0, 1) := dk_n (t := []) dk_g42 (by decide +kernel)
theorem dJ5_append_3fe6f_61 : decode cJ5_append_3fe6f 61 = .ok (.dup, 1) := dk_n (t := []) dk_g89 (by decide +kernel)
theorem dJ5_append_3fe6f_62 : decode cJ5_append_3fe6f 62 = .ok (.getfield 79, 3) := dk_u2 (y := 0) (z := 79) dk_g180 (by decide +kernel) rfl
theorem dJ5_append_3fe6f_65 : decode cJ5_append_3fe6f 65 = .ok (.dup_x1, 1) := dk_n (t := []) dk_g90 (by decide +kernel)
theorem dJ5_append_3fe6f_66 : decode cJ5_append_3fe6f 66 = .ok (.iconst 1, 1) := dk_n (t := []) dk_g4 (by decide +kernel)
theorem dJ5_append_3fe6f_67 : decode cJ5_append_3fe6f 67 = .ok (.iadd, 1) := dk_n (t := []) dk_g96 (by decide +kernel)
theorem dJ5_append_3fe6f_68 : decode cJ5_append_3fe6f 68 = .ok (.putfield 79, 3) := dk_u2 (y := 0) (z := 79) dk_g181 (by decide +kernel) rfl
theorem dJ5_append_3fe6f_71 : decode cJ5_append_3fe6f 71 = .ok (.iload_n 1, 1) := dk_n (t := []) dk_g27 (by decide +kernel)
theorem dJ5_append_3fe6f_72 : decode cJ5_append_3fe6f 72 = .ok (.invokestatic 197, 3) := dk_u2 (y := 0) (z := 197) dk_g184 (by decide +kernel) rfl
theorem dJ5_append_3fe6f_75 : decode cJ5_append_3fe6f 75 = .ok (.aload_n 0, 1) := dk_n (t := []) dk_g42 (by decide +kernel)
theorem dJ5_append_3fe6f_76 : decode cJ5_append_3fe6f 76 = .ok (.areturn, 1) := dk_n (t := []) dk_g176 (by decide +kernel)
theorem dJ5_append_c97b9_0 : decode cJ5_append_c97b9 0 = .ok (.aload_n 0, 1) := dk_n (t := []) dk_g42 (by decide +kernel)
theorem dJ5_append_c97b9_1 : decode cJ5_append_c97b9 1 = .ok (.getfield 79, 3) := dk_u2 (y := 0) (z := 79) dk_g180 (by decide +kernel) rfl
theorem dJ5_append_c97b9_4 : decode cJ5_append_c97b9 4 = .ok (.istore_n 2, 1) := dk_n (t := []) dk_g61 (by decide +kernel)
theorem dJ5_append_c97b9_5 : decode cJ5_append_c97b9 5 = .ok (.iload_n 2, 1) := dk_n (t := []) dk_g28 (by decide +kernel)
theorem dJ5_append_c97b9_6 : decode cJ5_append_c97b9 6 = .ok (.iload_n 1, 1) := dk_n (t := []) dk_g27 (by decide +kernel)
theorem dJ5_append_c97b9_7 : decode cJ5_append_c97b9 7 = .ok (.invokestatic 245, 3) := dk_u2 (y := 0) (z := 245) dk_g184 (by decide +kernel) rfl
theorem dJ5_append_c97b9_10 : decode cJ5_append_c97b9 10 = .ok (.iadd, 1) := dk_n (t := []) dk_g96 (by decide +kernel)
theorem dJ5_append_c97b9_11 : decode cJ5_append_c97b9 11 = .ok (.istore_n 3, 1) := dk_n (t := []) dk_g62 (by decide +kernel)
theorem dJ5_append_c97b9_12 : decode cJ5_append_c97b9 12 = .ok (.aload_n 0, 1) := dk_n (t := []) dk_g42 (by decide +kernel)
theorem dJ5_append_c97b9_13 : decode cJ5_append_c97b9 13 = .ok (.iload_n 3, 1) := dk_n (t := []) dk_g29 (by decide +kernel)
theorem dJ5_append_c97b9_14 : decode cJ5_append_c97b9 14 = .ok (.invokevirtual 100, 3) := dk_u2 (y := 0) (z := 100) dk_g182 (by decide +kernel) rfl
theorem dJ5_append_c97b9_17 : decode cJ5_append_c97b9 17 = .ok (.aload_n 0, 1) := dk_n (t := []) dk_g42 (by decide +kernel)
theorem dJ5_append_c97b9_18 : decode cJ5_append_c97b9 18 = .ok (.invokevirtual 83, 3) := dk_u2 (y := 0) (z := 83) dk_g182 (by decide +kernel) rfl
theorem dJ5_append_c97b9_21 : decode cJ5_append_c97b9 21 = .ok (.ifCond .eq 16, 3) := dk_s2 (y := 0) (z := 16) dk_g153 (by decide +kernel) rfl
theorem dJ5_append_c97b9_24 : decode cJ5_append_c97b9 24 = .ok (.iload_n 1, 1) := dk_n (t := []) dk_g27 (by decide +kernel)
theorem dJ5_append_c97b9_25 : decode cJ5_append_c97b9 25 = .ok (.iload_n 3, 1) := dk_n (t := []) dk_g29 (by decide +kernel)
theorem dJ5_append_c97b9_26 : decode cJ5_append_c97b9 26 = .ok (.aload_n 0, 1) := dk_n (t := []) dk_g42 (by decide +kernel)
theorem dJ5_append_c97b9_27 : decode cJ5_append_c97b9 27 = .ok (.getfield 15, 3) := dk_u2 (y := 0) (z := 15) dk_g180 (by decide +kernel) rfl
theorem dJ5_append_c97b9_30 : decode cJ5_append_c97b9 30 = .ok (.invokestatic 248, 3) := dk_u2 (y := 0) (z := 248) dk_g184 (by decide +kernel) rfl
theorem dJ5_append_c97b9_33 : decode cJ5_append_c97b9 33 = .ok (.pop, 1) := dk_n (t := []) dk_g87 (by decide +kernel)
theorem dJ5_append_c97b9_34 : decode cJ5_append_c97b9 34 = .ok (.goto 14, 3) := dk_s2 (y := 0) (z := 14) dk_g167 (by decide +kernel) rfl
theorem dJ5_append_c97b9_37 : decode cJ5_append_c97b9 37 = .ok (.iload_n 1, 1) := dk_n (t := []) dk_g27 (by decide +kernel)
theorem dJ5_append_c97b9_38 : decode cJ5_append_c97b9 38 = .ok (.iload_n 2, 1) := dk_n (t := []) dk_g28 (by decide +kernel)
theorem dJ5_append_c97b9_39 : decode cJ5_append_c97b9 39 = .ok (.iload_n 3, 1) := dk_n (t := []) dk_g29 (by decide +kernel)
theorem dJ5_append_c97b9_40 : decode cJ5_append_c97b9 40 = .ok (.aload_n 0, 1) := dk_n (t := []) dk_g42 (by decide +kernel)
theorem dJ5_append_c97b9_41 : decode cJ5_append_c97b9 41 = .ok (.getfield 15, 3) := dk_u2 (y := 0) (z := 15) dk_g180 (by decide +kernel) rfl
theorem dJ5_append_c97b9_44 : decode cJ5_append_c97b9 44 = .ok (.invokestatic 251, 3) := dk_u2 (y := 0) (z := 251) dk_g184 (by decide +kernel) rfl
theorem dJ5_append_c97b9_47 : decode cJ5_append_c97b9 47 = .ok (.pop, 1) := dk_n (t := []) dk_g87 (by decide +kernel)
theorem dJ5_append_c97b9_48 : decode cJ5_append_c97b9 48 = .ok (.aload_n 0, 1) := dk_n (t := []) dk_g42 (by decide +kernel)
theorem dJ5_append_c97b9_49 : decode cJ5_append_c97b9 49 = .ok (.iload_n 3, 1) := dk_n (t := []) dk_g29 (by decide +kernel)
theorem dJ5_append_c97b9_50 : decode cJ5_append_c97b9 50 = .ok (.putfield 79, 3) := dk_u2 (y := 0) (z := 79) dk_g181 (by decide +kernel) rfl
theorem dJ5_append_c97b9_53 : decode cJ5_append_c97b9 53 = .ok (.aload_n 0, 1) := dk_n (t := []) dk_g42 (by decide +kernel)
theorem dJ5_append_c97b9_54 : decode cJ5_append_c97b9 54 = .ok (.areturn, 1) := dk_n (t := []) dk_g176 (by decide +kernel)
theorem dJ5_getValue_6d5f1_0 : decode cJ5_getValue_6d5f1 0 = .ok (.aload_n 0, 1) := dk_n (t := []) dk_g42 (by decide +kernel)
theorem dJ5_getValue_6d5f1_1 : decode cJ5_getValue_6d5f1 1 = .ok (.getfield 15, 3) := dk_u2 (y := 0) (z := 15) dk_g180 (by decide +kernel) rfl
theorem dJ5_getValue_6d5f1_4 : decode cJ5_getValue_6d5f1 4 = .ok (.areturn, 1) := dk_n (t := []) dk_g176 (by decide +kernel)
theorem dJ5_isLatin1_aae02_0 : decode cJ5_isLatin1_aae02 0 = .ok (.getstatic 18, 3) := dk_u2 (y := 0) (z := 18) dk_g178 (by decide +kernel) rfl
theorem dJ5_isLatin1_aae02_3 : decode cJ5_isLatin1_aae02 3 = .ok (.ifCond .eq 14, 3) := dk_s2 (y := 0) (z := 14) dk_g153 (by decide +kernel) rfl
theorem dJ5_isLatin1_aae02_6 : decode cJ5_isLatin1_aae02 6 = .ok (.aload_n 0, 1) := dk_n (t := []) dk_g42 (by decide +kernel)
theorem dJ5_isLatin1_aae02_7 : decode cJ5_isLatin1_aae02 7 = .ok (.getfield 22, 3) := dk_u2 (y := 0) (z := 22) dk_g180 (by decide +kernel) rfl
theorem dJ5_isLatin1_aae02_10 : decode cJ5_isLatin1_aae02 10 = .ok (.ifCond .ne 7, 3) := dk_s2 (y := 0) (z := 7) dk_g154 (by decide +kernel) rfl
theorem dJ5_isLatin1_aae02_13 : decode cJ5_isLatin1_aae02 13 = .ok (.iconst 1, 1) := dk_n (t := []) dk_g4 (by decide +kernel)
theorem dJ5_isLatin1_aae02_14 : decode cJ5_isLatin1_aae02 14 = .ok (.goto 4, 3) := dk_s2 (y := 0) (z := 4) dk_g167 (by decide +kernel) rfl
theorem dJ5_isLatin1_aae02_17 : decode cJ5_isLatin1_aae02 17 = .ok (.iconst 0, 1) := dk_n (t := []) dk_g3 (by decide +kernel)
theorem dJ5_isLatin1_aae02_18 : decode cJ5_isLatin1_aae02 18 = .ok (.ireturn, 1) := dk_n (t := []) dk_g172 (by decide +kernel)
theorem dJ5_inflateIfNeededFor_a7421_0 : decode cJ5_inflateIfNeededFor_a7421 0 = .ok (.getstatic 18, 3) := dk_u2 (y := 0) (z := 18) dk_g178 (by decide +kernel) rfl
theorem dJ5_inflateIfNeededFor_a7421_3 : decode cJ5_inflateIfNeededFor_a7421 3 = .ok (.ifCond .eq 18, 3) := dk_s2 (y := 0) (z := 18) dk_g153 (by decide +kernel) rfl
theorem dJ5_inflateIfNeededFor_a7421_6 : decode cJ5_inflateIfNeededFor_a7421 6 = .ok (.aload_n 0, 1) := dk_n (t := []) dk_g42 (by decide +kernel)
theorem dJ5_inflateIfNeededFor_a7421_7 : decode cJ5_inflateIfNeededFor_a7421 7 = .ok (.getfield 22, 3) := dk_u2 (y := 0) (z := 22) dk_g180 (by decide +kernel) rfl
theorem dJ5_inflateIfNeededFor_a7421_10 : decode cJ5_inflateIfNeededFor_a7421 10 = .ok (.aload_n 1, 1) := dk_n (t := []) dk_g43 (by decide +kernel)
theorem dJ5_inflateIfNeededFor_a7421_11 : decode cJ5_inflateIfNeededFor_a7421 11 = .ok (.invokevirtual 40, 3) := dk_u2 (y := 0) (z := 40) dk_g182 (by decide +kernel) rfl
theorem dJ5_inflateIfNeededFor_a7421_14 : decode cJ5_inflateIfNeededFor_a7421 14 = .ok (.if_icmp .eq 7, 3) := dk_s2 (y := 0) (z := 7) dk_g159 (by decide +kernel) rfl
theorem dJ5_inflateIfNeededFor_a7421_17 : decode cJ5_inflateIfNeededFor_a7421 17 = .ok (.aload_n 0, 1) := dk_n (t := []) dk_g42 (by decide +kernel)
theorem dJ5_inflateIfNeededFor_a7421_18 : decode cJ5_inflateIfNeededFor_a7421 18 = .ok (.invokevirtual 195, 3) := dk_u2 (y := 0) (z := 195) dk_g182 (by decide +kernel) rfl
theorem dJ5_inflateIfNeededFor_a7421_21 : decode cJ5_inflateIfNeededFor_a7421 21 = .ok (.return_, 1) := dk_n (t := []) dk_g177 (by decide +kernel)
theorem dJ5_putStringAt_47b60_0 : decode cJ5_putStringAt_47b60 0 = .ok (.aload_n 0, 1) := dk_n (t := []) dk_g42 (by decide +kernel)
theorem dJ5_putStringAt_47b60_1 : decode cJ5_putStringAt_47b60 1 = .ok (.aload_n 2, 1) := dk_n (t := []) dk_g44 (by decide +kernel)
theorem dJ5_putStringAt_47b60_2 : decode cJ5_putStringAt_47b60 2 = .ok (.invokevirtual 397, 3) := dk_u2 (y := 1) (z := 141) dk_g182 (by decide +kernel) rfl
theorem dJ5_putStringAt_47b60_5 : decode cJ5_putStringAt_47b60 5 = .ok (.aload_n 2, 1) := dk_n (t := []) dk_g44 (by decide +kernel)
theorem dJ5_putStringAt_47b60_6 : decode cJ5_putStringAt_47b60 6 = .ok (.aload_n 0, 1) := dk_n (t := []) dk_g42 (by decide +kernel)
theorem dJ5_putStringAt_47b60_7 : decode cJ5_putStringAt_47b60 7 = .ok (.getfield 15, 3) := dk_u2 (y := 0) (z := 15) dk_g180 (by decide +kernel) rfl
theorem dJ5_putStringAt_47b60_10 : decode cJ5_putStringAt_47b60 10 = .ok (.iload_n 1, 1) := dk_n (t := []) dk_g27 (by decide +kernel)
theorem dJ5_putStringAt_47b60_11 : decode cJ5_putStringAt_47b60 11 = .ok (.aload_n 0, 1) := dk_n (t := []) dk_g42 (by decide +kernel)
theorem dJ5_putStringAt_47b60_12 : decode cJ5_putStringAt_47b60 12 = .ok (.getfield 22, 3) := dk_u2 (y := 0) (z := 22) dk_g180 (by decide +kernel) rfl
theorem dJ5_putStringAt_47b60_15 : decode cJ5_putStringAt_47b60 15 = .ok (.invokevirtual 399, 3) := dk_u2 (y := 1) (z := 143) dk_g182 (by decide +kernel) rfl
theorem dJ5_putStringAt_47b60_18 : decode cJ5_putStringAt_47b60 18 = .ok (.return_, 1) := dk_n (t := []) dk_g177 (by decide +kernel)
theorem dJ6_getChars_ba4f3_0 : decode cJ6_getChars_ba4f3 0 = .ok (.iload_n 1, 1) := dk_n (t := []) dk_g27 (by decide +kernel)
theorem dJ6_getChars_ba4f3_1 : decode cJ6_getChars_ba4f3 1 = .ok (.istore 5, 2) := dk_u1 (y := 5) dk_g54 (by decide +kernel)
theorem dJ6_getChars_ba4f3_3 : decode cJ6_getChars_ba4f3 3 = .ok (.iload_n 0, 1) := dk_n (t := []) dk_g26 (by decide +kernel)
theorem dJ6_getChars_ba4f3_4 : decode cJ6_getChars_ba4f3 4 = .ok (.ifCond .ge 7, 3) := dk_s2 (y := 0) (z := 7) dk_g156 (by decide +kernel) rfl
theorem dJ6_getChars_ba4f3_7 : decode cJ6_getChars_ba4f3 7 = .ok (.iconst 1, 1) := dk_n (t := []) dk_g4 (by decide +kernel)
theorem dJ6_getChars_ba4f3_8 : decode cJ6_getChars_ba4f3 8 = .ok (.goto 4, 3) := dk_s2 (y := 0) (z := 4) dk_g167 (by decide +kernel) rfl
theorem dJ6_getChars_ba4f3_11 : decode cJ6_getChars_ba4f3 11 = .ok (.iconst 0, 1) := dk_n (t := []) dk_g3 (by decide +kernel)
theorem dJ6_getChars_ba4f3_12 : decode cJ6_getChars_ba4f3 12 = .ok (.istore 6, 2) := dk_u1 (y := 6) dk_g54 (by decide +kernel)
theorem dJ6_getChars_ba4f3_14 : decode cJ6_getChars_ba4f3 14 = .ok (.iload 6, 2) := dk_u1 (y := 6) dk_g21 (by decide +kernel)
theorem dJ6_getChars_ba4f3_16 : decode cJ6_getChars_ba4f3 16 = .ok (.ifCond .ne 6, 3) := dk_s2 (y := 0) (z := 6) dk_g154 (by decide +kernel) rfl
theorem dJ6_getChars_ba4f3_19 : decode cJ6_getChars_ba4f3 19 = .ok (.iload_n 0, 1) := dk_n (t := []) dk_g26 (by decide +kernel)
theorem dJ6_getChars_ba4f3_20 : decode cJ6_getChars_ba4f3 20 = .ok (.ineg, 1) := dk_n (t := []) dk_g116 (by decide +kernel)
theorem dJ6_getChars_ba4f3_21 : decode cJ6_getChars_ba4f3 21 = .ok (.istore_n 0, 1) := dk_n (t := []) dk_g59 (by decide +kernel)
theorem dJ6_getChars_ba4f3_22 : decode cJ6_getChars_ba4f3 22 = .ok (.iload_n 0, 1) := dk_n (t := []) dk_g26 (by decide +kernel)
theorem dJ6_getChars_ba4f3_23 : decode cJ6_getChars_ba4f3 23 = .ok (.bipush (-100), 2) := dk_s1 (y := 156) dk_g16 (by decide +kernel) rfl
theorem dJ6_getChars_ba4f3_25 : decode cJ6_getChars_ba4f3 25 = .ok (.if_icmp .gt 47, 3) := dk_s2 (y := 0) (z := 47) dk_g163 (by decide +kernel) rfl
theorem dJ6_getChars_ba4f3_28 : decode cJ6_getChars_ba4f3 28 = .ok (.iload_n 0, 1) := dk_n (t := []) dk_g26 (by decide +kernel)
theorem dJ6_getChars_ba4f3_29 : decode cJ6_getChars_ba4f3 29 = .ok (.bipush 100, 2) := dk_s1 (y := 100) dk_g16 (by decide +kernel) rfl
theorem dJ6_getChars_ba4f3_31 : decode cJ6_getChars_ba4f3 31 = .ok (.idiv, 1) := dk_n (t := []) dk_g108 (by decide +kernel)
theorem dJ6_getChars_ba4f3_32 : decode cJ6_getChars_ba4f3 32 = .ok (.istore_n 3, 1) := dk_n (t := []) dk_g62 (by decide +kernel)
theorem dJ6_getChars_ba4f3_33 : decode cJ6_getChars_ba4f3 33 = .ok (.iload_n 3, 1) := dk_n (t := []) dk_g29 (by decide +kernel)
theorem dJ6_getChars_ba4f3_34 : decode cJ6_getChars_ba4f3 34 = .ok (.bipush 100, 2) := dk_s1 (y := 100) dk_g16 (by decide +kernel) rfl
theorem dJ6_getChars_ba4f3_36 : decode cJ6_getChars_ba4f3 36 = .ok (.imul, 1) := dk_n (t := []) dk_g104 (by decide +kernel)
theorem dJ6_getChars_ba4f3_37 : decode cJ6_getChars_ba4f3 37 = .ok (.iload_n 0, 1) := dk_n (t := []) dk_g26 (by decide +kernel)
theorem dJ6_getChars_ba4f3_38 : decode cJ6_getChars_ba4f3 38 = .ok (.isub, 1) := dk_n (t := []) dk_g100 (by decide +kernel)
theorem dJ6_getChars_ba4f3_39 : decode cJ6_getChars_ba4f3 39 = .ok (.istore 4, 2) := dk_u1 (y := 4) dk_g54 (by decide +kernel)
theorem dJ6_getChars_ba4f3_41 : decode cJ6_getChars_ba4f3 41 = .ok (.iload_n 3, 1) := dk_n (t := []) dk_g29 (by decide +kernel)
theorem dJ6_getChars_ba4f3_42 : decode cJ6_getChars_ba4f3 42 = .ok (.istore_n 0, 1) := dk_n (t := []) dk_g59 (by decide +kernel)
theorem dJ6_getChars_ba4f3_43 : decode cJ6_getChars_ba4f3 43 = .ok (.aload_n 2, 1) := dk_n (t := []) dk_g44 (by decide +kernel)
theorem dJ6_getChars_ba4f3_44 : decode cJ6_getChars_ba4f3 44 = .ok (.iinc 5 (-1), 3) := dk_ii (y := 5) (z := 255) dk_g132 (by decide +kernel) rfl
theorem dJ6_getChars_ba4f3_47 : decode cJ6_getChars_ba4f3 47 = .ok (.iload 5, 2) := dk_u1 (y := 5) dk_g21 (by decide +kernel)
theorem dJ6_getChars_ba4f3_49 : decode cJ6_getChars_ba4f3 49 = .ok (.getstatic 83, 3) := dk_u2 (y := 0) (z := 83) dk_g178 (by decide +kernel) rfl
theorem dJ6_getChars_ba4f3_52 : decode cJ6_getChars_ba4f3 52 = .ok (.iload 4, 2) := dk_u1 (y := 4) dk_g21 (by decide +kernel)
theorem dJ6_getChars_ba4f3_54 : decode cJ6_getChars_ba4f3 54 = .ok (.baload, 1) := dk_n (t := []) dk_g51 (by decide +kernel)
theorem dJ6_getChars_ba4f3_55 : decode cJ6_getChars_ba4f3 55 = .ok (.bastore, 1) := dk_n (t := []) dk_g84 (by decide +kernel)
theorem dJ6_getChars_ba4f3_56 : decode cJ6_getChars_ba4f3 56 = .ok (.aload_n 2, 1) := dk_n (t := []) dk_g44 (by decide +kernel)
theorem dJ6_getChars_ba4f3_57 : decode cJ6_getChars_ba4f3 57 = .ok (.iinc 5 (-1), 3) := dk_ii (y := 5) (z := 255) dk_g132 (by decide +kernel) rfl
theorem dJ6_getChars_ba4f3_60 : decode cJ6_getChars_ba4f3 60 = .ok (.iload 5, 2) := dk_u1 (y := 5) dk_g21 (by decide +kernel)
theorem dJ6_getChars_ba4f3_62 : decode cJ6_getChars_ba4f3 62 = .ok (.getstatic 87, 3) := dk_u2 (y := 0) (z := 87) dk_g178 (by decide +kernel) rfl
theorem dJ6_getChars_ba4f3_65 : decode cJ6_getChars_ba4f3 65 = .ok (.iload 4, 2) := dk_u1 (y := 4) dk_g21 (by decide +kernel)
theorem dJ6_getChars_ba4f3_67 : decode cJ6_getChars_ba4f3 67 = .ok (.baload, 1) := dk_n (t := []) dk_g51 (by decide +kernel)
theorem dJ6_getChars_ba4f3_68 : decode cJ6_getChars_ba4f3 68 = .ok (.bastore, 1) := dk_n (t := []) dk_g84 (by decide +kernel)
theorem dJ6_getChars_ba4f3_69 : decode cJ6_getChars_ba4f3 69 = .ok (.goto (-47), 3) := dk_s2 (y := 255) (z := 209) dk_g167 (by decide +kernel) rfl
theorem dJ6_getChars_ba4f3_72 : decode cJ6_getChars_ba4f3 72 = .ok (.aload_n 2, 1) := dk_n (t := []) dk_g44 (by decide +kernel)
theorem dJ6_getChars_ba4f3_73 : decode cJ6_getChars_ba4f3 73 = .ok (.iinc 5 (-1), 3) := dk_ii (y := 5) (z := 255) dk_g132 (by decide +kernel) rfl
theorem dJ6_getChars_ba4f3_76 : decode cJ6_getChars_ba4f3 76 = .ok (.iload 5, 2) := dk_u1 (y := 5) dk_g21 (by decide +kernel)
theorem dJ6_getChars_ba4f3_78 : decode cJ6_getChars_ba4f3 78 = .ok (.getstatic 83, 3) := dk_u2 (y := 0) (z := 83) dk_g178 (by decide +kernel) rfl
theorem dJ6_getChars_ba4f3_81 : decode cJ6_getChars_ba4f3 81 = .ok (.iload_n 0, 1) := dk_n (t := []) dk_g26 (by decide +kernel)
theorem dJ6_getChars_ba4f3_82 : decode cJ6_getChars_ba4f3 82 = .ok (.ineg, 1) := dk_n (t := []) dk_g116 (by decide +kernel)
theorem dJ6_getChars_ba4f3_83 : decode cJ6_getChars_ba4f3 83 = .ok (.baload, 1) := dk_n (t := []) dk_g51 (by decide +kernel)
theorem dJ6_getChars_ba4f3_84 : decode cJ6_getChars_ba4f3 84 = .ok (.bastore, 1) := dk_n (t := []) dk_g84 (by decide +kernel)
theorem dJ6_getChars_ba4f3_85 : decode cJ6_getChars_ba4f3 85 = .ok (.iload_n 0, 1) := dk_n (t := []) dk_g26 (by decide +kernel)
theorem dJ6_getChars_ba4f3_86 : decode cJ6_getChars_ba4f3 86 = .ok (.bipush (-9), 2) := dk_s1 (y := 247) dk_g16 (by decide +kernel) rfl
theorem dJ6_getChars_ba4f3_88 : decode cJ6_getChars_ba4f3 88 = .ok (.if_icmp .ge 16, 3) := dk_s2 (y := 0) (z := 16) dk_g162 (by decide +kernel) rfl
theorem dJ6_getChars_ba4f3_91 : decode cJ6_getChars_ba4f3 91 = .ok (.aload_n 2, 1) := dk_n (t := []) dk_g44 (by decide +kernel)
theorem dJ6_getChars_ba4f3_92 : decode cJ6_getChars_ba4f3 92 = .ok (.iinc 5 (-1), 3) := dk_ii (y := 5) (z := 255) dk_g132 (by decide +kernel) rfl
theorem dJ6_getChars_ba4f3_95 : decode cJ6_getChars_ba4f3 95 = .ok (.iload 5, 2) := dk_u1 (y := 5) dk_g21 (by decide +kernel)
theorem dJ6_getChars_ba4f3_97 : decode cJ6_getChars_ba4f3 97 = .ok (.getstatic 87, 3) := dk_u2 (y := 0) (z := 87) dk_g178 (by decide +kernel) rfl
theorem dJ6_getChars_ba4f3_100 : decode cJ6_getChars_ba4f3 100 = .ok (.iload_n 0, 1) := dk_n (t := []) dk_g26 (by decide +kernel)
theorem dJ6_getChars_ba4f3_101 : decode cJ6_getChars_ba4f3 101 = .ok (.ineg, 1) := dk_n (t := []) dk_g116 (by decide +kernel)
theorem dJ6_getChars_ba4f3_102 : decode cJ6_getChars_ba4f3 102 = .ok (.baload, 1) := dk_n (t := []) dk_g51 (by decide +kernel)
theorem dJ6_getChars_ba4f3_103 : decode cJ6_getChars_ba4f3 103 = .ok (.bastore, 1) := dk_n (t := []) dk_g84 (by decide +kernel)
theorem dJ6_getChars_ba4f3_104 : decode cJ6_getChars_ba4f3 104 = .ok (.iload 6, 2) := dk_u1 (y := 6) dk_g21 (by decide +kernel)
theorem dJ6_getChars_ba4f3_106 : decode cJ6_getChars_ba4f3 106 = .ok (.ifCond .eq 12, 3) := dk_s2 (y := 0) (z := 12) dk_g153 (by decide +kernel) rfl
theorem dJ6_getChars_ba4f3_109 : decode cJ6_getChars_ba4f3 109 = .ok (.aload_n 2, 1) := dk_n (t := []) dk_g44 (by decide +kernel)
theorem dJ6_getChars_ba4f3_110 : decode cJ6_getChars_ba4f3 110 = .ok (.iinc 5 (-1), 3) := dk_ii (y := 5) (z := 255) dk_g132 (by decide +kernel) rfl
theorem dJ6_getChars_ba4f3_113 : decode cJ6_getChars_ba4f3 113 = .ok (.iload 5, 2) := dk_u1 (y := 5) dk_g21 (by decide +kernel)
theorem dJ6_getChars_ba4f3_115 : decode cJ6_getChars_ba4f3 115 = .ok (.bipush 45, 2) := dk_s1 (y := 45) dk_g16 (by decide +kernel) rfl
theorem dJ6_getChars_ba4f3_117 : decode cJ6_getChars_ba4f3 117 = .ok (.bastore, 1) := dk_n (t := []) dk_g84 (by decide +kernel)
theorem dJ6_getChars_ba4f3_118 : decode cJ6_getChars_ba4f3 118 = .ok (.iload 5, 2) := dk_u1 (y := 5) dk_g21 (by decide +kernel)
theorem dJ6_getChars_ba4f3_120 : decode cJ6_getChars_ba4f3 120 = .ok (.ireturn, 1) := dk_n (t := []) dk_g172 (by decide +kernel)
theorem dJ6_stringSize_0f7a4_0 : decode cJ6_stringSize_0f7a4 0 = .ok (.iconst 1, 1) := dk_n (t := []) dk_g4 (by decide +kernel)
theorem dJ6_stringSize_0f7a4_1 : decode cJ6_stringSize_0f7a4 1 = .ok (.istore_n 1, 1) := dk_n (t := []) dk_g60 (by decide +kernel)
theorem dJ6_stringSize_0f7a4_2 : decode cJ6_stringSize_0f7a4 2 = .ok (.iload_n 0, 1) := dk_n (t := []) dk_g26 (by decide +kernel)
theorem dJ6_stringSize_0f7a4_3 : decode cJ6_stringSize_0f7a4 3 = .ok (.ifCond .lt 8, 3) := dk_s2 (y := 0) (z := 8) dk_g155 (by decide +kernel) rfl
theorem dJ6_stringSize_0f7a4_6 : decode cJ6_stringSize_0f7a4 6 = .ok (.iconst 0, 1) := dk_n (t := []) dk_g3 (by decide +kernel)
theorem dJ6_stringSize_0f7a4_7 : decode cJ6_stringSize_0f7a4 7 = .ok (.istore_n 1, 1) := dk_n (t := []) dk_g60 (by decide +kernel)
theorem dJ6_stringSize_0f7a4_8 : decode cJ6_stringSize_0f7a4 8 = .ok (.iload_n 0, 1) := dk_n (t := []) dk_g26 (by decide +kernel)
theorem dJ6_stringSize_0f7a4_9 : decode cJ6_stringSize_0f7a4 9 = .ok (.ineg, 1) := dk_n (t := []) dk_g116 (by decide +kernel)
theorem dJ6_stringSize_0f7a4_10 : decode cJ6_stringSize_0f7a4 10 = .ok (.istore_n 0, 1) := dk_n (t := []) dk_g59 (by decide +kernel)
theorem dJ6_stringSize_0f7a4_11 : decode cJ6_stringSize_0f7a4 11 = .ok (.bipush (-10), 2) := dk_s1 (y := 246) dk_g16 (by decide +kernel) rfl
theorem dJ6_stringSize_0f7a4_13 : decode cJ6_stringSize_0f7a4 13 = .ok (.istore_n 2, 1) := dk_n (t := []) dk_g61 (by decide +kernel)
theorem dJ6_stringSize_0f7a4_14 : decode cJ6_stringSize_0f7a4 14 = .ok (.iconst 1, 1) := dk_n (t := []) dk_g4 (by decide +kernel)
theorem dJ6_stringSize_0f7a4_15 : decode cJ6_stringSize_0f7a4 15 = .ok (.istore_n 3, 1) := dk_n (t := []) dk_g62 (by decide +kernel)
theorem dJ6_stringSize_0f7a4_16 : decode cJ6_stringSize_0f7a4 16 = .ok (.iload_n 3, 1) := dk_n (t := []) dk_g29 (by decide +kernel)
theorem dJ6_stringSize_0f7a4_17 : decode cJ6_stringSize_0f7a4 17 = .ok (.bipush 10, 2) := dk_s1 (y := 10) dk_g16 (by decide +kernel) rfl
theorem dJ6_stringSize_0f7a4_19 : decode cJ6_stringSize_0f7a4 19 = .ok (.if_icmp .ge 23, 3) := dk_s2 (y := 0) (z := 23) dk_g162 (by decide +kernel) rfl
theorem dJ6_stringSize_0f7a4_22 : decode cJ6_stringSize_0f7a4 22 = .ok (.iload_n 0, 1) := dk_n (t := []) dk_g26 (by decide +kernel)
theorem dJ6_stringSize_0f7a4_23 : decode cJ6_stringSize_0f7a4 23 = .ok (.iload_n 2, 1) := dk_n (t := []) dk_g28 (by decide +kernel)
theorem dJ6_stringSize_0f7a4_24 : decode cJ6_stringSize_0f7a4 24 = .ok (.if_icmp .le 7, 3) := dk_s2 (y := 0) (z := 7) dk_g164 (by decide +kernel) rfl
theorem dJ6_stringSize_0f7a4_27 : decode cJ6_stringSize_0f7a4 27 = .ok (.iload_n 3, 1) := dk_n (t := []) dk_g29 (by decide +kernel)
theorem dJ6_stringSize_0f7a4_28 : decode cJ6_stringSize_0f7a4 28 = .ok (.iload_n 1, 1) := dk_n (t := []) dk_g27 (by decide +kernel)
theorem dJ6_stringSize_0f7a4_29 : decode cJ6_stringSize_0f7a4 29 = .ok (.iadd, 1) := dk_n (t := []) dk_g96 (by decide +kernel)
theorem dJ6_stringSize_0f7a4_30 : decode cJ6_stringSize_0f7a4 30 = .ok (.ireturn, 1) := dk_n (t := []) dk_g172 (by decide +kernel)
theorem dJ6_stringSize_0f7a4_31 : decode cJ6_stringSize_0f7a4 31 = .ok (.bipush 10, 2) := dk_s1 (y := 10) dk_g16 (by decide +kernel) rfl
theorem dJ6_stringSize_0f7a4_33 : decode cJ6_stringSize_0f7a4 33 = .ok (.iload_n 2, 1) := dk_n (t := []) dk_g28 (by decide +kernel)
theorem dJ6_stringSize_0f7a4_34 : decode cJ6_stringSize_0f7a4 34 = .ok (.imul, 1) := dk_n (t := []) dk_g104 (by decide +kernel)
theorem dJ6_stringSize_0f7a4_35 : decode cJ6_stringSize_0f7a4 35 = .ok (.istore_n 2, 1) := dk_n (t := []) dk_g61 (by decide +kernel)
theorem dJ6_stringSize_0f7a4_36 : decode cJ6_stringSize_0f7a4 36 = .ok (.iinc 3 1, 3) := dk_ii (y := 3) (z := 1) dk_g132 (by decide +kernel) rfl
theorem dJ6_stringSize_0f7a4_39 : decode cJ6_stringSize_0f7a4 39 = .ok (.goto (-23), 3) := dk_s2 (y := 255) (z := 233) dk_g167 (by decide +kernel) rfl
theorem dJ6_stringSize_0f7a4_42 : decode cJ6_stringSize_0f7a4 42 = .ok (.bipush 10, 2) := dk_s1 (y := 10) dk_g16 (by decide +kernel) rfl
theorem dJ6_stringSize_0f7a4_44 : decode cJ6_stringSize_0f7a4 44 = .ok (.iload_n 1, 1) := dk_n (t := []) dk_g27 (by decide +kernel)
theorem dJ6_stringSize_0f7a4_45 : decode cJ6_stringSize_0f7a4 45 = .ok (.iadd, 1) := dk_n (t := []) dk_g96 (by decide +kernel)
theorem dJ6_stringSize_0f7a4_46 : decode cJ6_stringSize_0f7a4 46 = .ok (.ireturn, 1) := dk_n (t := []) dk_g172 (by decide +kernel)
theorem dJ6_numberOfTrailingZeros_0f7a4_0 : decode cJ6_numberOfTrailingZeros_0f7a4 0 = .ok (.iload_n 0, 1) := dk_n (t := []) dk_g26 (by decide +kernel)
theorem dJ6_numberOfTrailingZeros_0f7a4_1 : decode cJ6_numberOfTrailingZeros_0f7a4 1 = .ok (.iconst (-1), 1) := dk_n (t := []) dk_g2 (by decide +kernel)
theorem dJ6_numberOfTrailingZeros_0f7a4_2 : decode cJ6_numberOfTrailingZeros_0f7a4 2 = .ok (.ixor, 1) := dk_n (t := []) dk_g130 (by decide +kernel)
theorem dJ6_numberOfTrailingZeros_0f7a4_3 : decode cJ6_numberOfTrailingZeros_0f7a4 3 = .ok (.iload_n 0, 1) := dk_n (t := []) dk_g26 (by decide +kernel)
theorem dJ6_numberOfTrailingZeros_0f7a4_4 : decode cJ6_numberOfTrailingZeros_0f7a4 4 = .ok (.iconst 1, 1) := dk_n (t := []) dk_g4 (by decide +kernel)
theorem dJ6_numberOfTrailingZeros_0f7a4_5 : decode cJ6_numberOfTrailingZeros_0f7a4 5 = .ok (.isub, 1) := dk_n (t := []) dk_g100 (by decide +kernel)
theorem dJ6_numberOfTrailingZeros_0f7a4_6 : decode cJ6_numberOfTrailingZeros_0f7a4 6 = .ok (.iand, 1) := dk_n (t := []) dk_g126 (by decide +kernel)
theorem dJ6_numberOfTrailingZeros_0f7a4_7 : decode cJ6_numberOfTrailingZeros_0f7a4 7 = .ok (.istore_n 0, 1) := dk_n (t := []) dk_g59 (by decide +kernel)
theorem dJ6_numberOfTrailingZeros_0f7a4_8 : decode cJ6_numberOfTrailingZeros_0f7a4 8 = .ok (.iload_n 0, 1) := dk_n (t := []) dk_g26 (by decide +kernel)
theorem dJ6_numberOfTrailingZeros_0f7a4_9 : decode cJ6_numberOfTrailingZeros_0f7a4 9 = .ok (.ifCond .gt 8, 3) := dk_s2 (y := 0) (z := 8) dk_g157 (by decide +kernel) rfl
theorem dJ6_numberOfTrailingZeros_0f7a4_12 : decode cJ6_numberOfTrailingZeros_0f7a4 12 = .ok (.iload_n 0, 1) := dk_n (t := []) dk_g26 (by decide +kernel)
theorem dJ6_numberOfTrailingZeros_0f7a4_13 : decode cJ6_numberOfTrailingZeros_0f7a4 13 = .ok (.bipush 32, 2) := dk_s1 (y := 32) dk_g16 (by decide +kernel) rfl
theorem dJ6_numberOfTrailingZeros_0f7a4_15 : decode cJ6_numberOfTrailingZeros_0f7a4 15 = .ok (.iand, 1) := dk_n (t := []) dk_g126 (by decide +kernel)
theorem dJ6_numberOfTrailingZeros_0f7a4_16 : decode cJ6_numberOfTrailingZeros_0f7a4 16 = .ok (.ireturn, 1) := dk_n (t := []) dk_g172 (by decide +kernel)
theorem dJ6_numberOfTrailingZeros_0f7a4_17 : decode cJ6_numberOfTrailingZeros_0f7a4 17 = .ok (.iconst 1, 1) := dk_n (t := []) dk_g4 (by decide +kernel)
theorem dJ6_numberOfTrailingZeros_0f7a4_18 : decode cJ6_numberOfTrailingZeros_0f7a4 18 = .ok (.istore_n 1, 1) := dk_n (t := []) dk_g60 (by decide +kernel)
theorem dJ6_numberOfTrailingZeros_0f7a4_19 : decode cJ6_numberOfTrailingZeros_0f7a4 19 = .ok (.iload_n 0, 1) := dk_n (t := []) dk_g26 (by decide +kernel)
theorem dJ6_numberOfTrailingZeros_0f7a4_20 : decode cJ6_numberOfTrailingZeros_0f7a4 20 = .ok (.ldc_w 264, 3) := dk_u2 (y := 1) (z := 8) dk_g19 (by decide +kernel) rfl
theorem dJ6_numberOfTrailingZeros_0f7a4_23 : decode cJ6_numberOfTrailingZeros_0f7a4 23 = .ok (.if_icmp .le 11, 3) := dk_s2 (y := 0) (z := 11) dk_g164 (by decide +kernel) rfl
theorem dJ6_numberOfTrailingZeros_0f7a4_26 : decode cJ6_numberOfTrailingZeros_0f7a4 26 = .ok (.iinc 1 16, 3) := dk_ii (y := 1) (z := 16) dk_g132 (by decide +kernel) rfl
theorem dJ6_numberOfTrailingZeros_0f7a4_29 : decode cJ6_numberOfTrailingZeros_0f7a4 29 = .ok (.iload_n 0, 1) := dk_n (t := []) dk_g26 (by decide +kernel)
theorem dJ6_numberOfTrailingZeros_0f7a4_30 : decode cJ6_numberOfTrailingZeros_0f7a4 30 = .ok (.bipush 16, 2) := dk_s1 (y := 16) dk_g16 (by decide +kernel) rfl
theorem dJ6_numberOfTrailingZeros_0f7a4_32 : decode cJ6_numberOfTrailingZeros_0f7a4 32 = .ok (.iushr, 1) := dk_n (t := []) dk_g124 (by decide +kernel)
theorem dJ6_numberOfTrailingZeros_0f7a4_33 : decode cJ6_numberOfTrailingZeros_0f7a4 33 = .ok (.istore_n 0, 1) := dk_n (t := []) dk_g59 (by decide +kernel)
theorem dJ6_numberOfTrailingZeros_0f7a4_34 : decode cJ6_numberOfTrailingZeros_0f7a4 34 = .ok (.iload_n 0, 1) := dk_n (t := []) dk_g26 (by decide +kernel)
theorem dJ6_numberOfTrailingZeros_0f7a4_35 : decode cJ6_numberOfTrailingZeros_0f7a4 35 = .ok (.sipush 256, 3) := dk_s2 (y := 1) (z := 0) dk_g17 (by decide +kernel) rfl
theorem dJ6_numberOfTrailingZeros_0f7a4_38 : decode cJ6_numberOfTrailingZeros_0f7a4 38 = .ok (.if_icmp .le 11, 3) := dk_s2 (y := 0) (z := 11) dk_g164 (by decide +kernel) rfl
theorem dJ6_numberOfTrailingZeros_0f7a4_41 : decode cJ6_numberOfTrailingZeros_0f7a4 41 = .ok (.iinc 1 8, 3) := dk_ii (y := 1) (z := 8) dk_g132 (by decide +kernel) rfl
theorem dJ6_numberOfTrailingZeros_0f7a4_44 : decode cJ6_numberOfTrailingZeros_0f7a4 44 = .ok (.iload_n 0, 1) := dk_n (t := []) dk_g26 (by decide +kernel)
theorem dJ6_numberOfTrailingZeros_0f7a4_45 : decode cJ6_numberOfTrailingZeros_0f7a4 45 = .ok (.bipush 8, 2) := dk_s1 (y := 8) dk_g16 (by decide +kernel) rfl
theorem dJ6_numberOfTrailingZeros_0f7a4_47 : decode cJ6_numberOfTrailingZeros_0f7a4 47 = .ok (.iushr, 1) := dk_n (t := []) dk_g124 (by decide +kernel)
theorem dJ6_numberOfTrailingZeros_0f7a4_48 : decode cJ6_numberOfTrailingZeros_0f7a4 48 = .ok (.istore_n 0, 1) := dk_n (t := []) dk_g59 (by decide +kernel)
theorem dJ6_numberOfTrailingZeros_0f7a4_49 : decode cJ6_numberOfTrailingZeros_0f7a4 49 = .ok (.iload_n 0, 1) := dk_n (t := []) dk_g26 (by decide +kernel)
theorem dJ6_numberOfTrailingZeros_0f7a4_50 : decode cJ6_numberOfTrailingZeros_0f7a4 50 = .ok (.bipush 16, 2) := dk_s1 (y := 16) dk_g16 (by decide +kernel) rfl
theorem dJ6_numberOfTrailingZeros_0f7a4_52 : decode cJ6_numberOfTrailingZeros_0f7a4 52 = .ok (.if_icmp .le 10, 3) := dk_s2 (y := 0) (z := 10) dk_g164 (by decide +kernel) rfl
theorem dJ6_numberOfTrailingZeros_0f7a4_55 : decode cJ6_numberOfTrailingZeros_0f7a4 55 = .ok (.iinc 1 4, 3) := dk_ii (y := 1) (z := 4) dk_g132 (by decide +kernel) rfl
theorem dJ6_numberOfTrailingZeros_0f7a4_58 : decode cJ6_numberOfTrailingZeros_0f7a4 58 = .ok (.iload_n 0, 1) := dk_n (t := []) dk_g26 (by decide +kernel)
theorem dJ6_numberOfTrailingZeros_0f7a4_59 : decode cJ6_numberOfTrailingZeros_0f7a4 59 = .ok (.iconst 4, 1) := dk_n (t := []) dk_g7 (by decide +kernel)
theorem dJ6_numberOfTrailingZeros_0f7a4_60 : decode cJ6_numberOfTrailingZeros_0f7a4 60 = .ok (.iushr, 1) := dk_n (t := []) dk_g124 (by decide +kernel)
theorem dJ6_numberOfTrailingZeros_0f7a4_61 : decode cJ6_numberOfTrailingZeros_0f7a4 61 = .ok (.istore_n 0, 1) := dk_n (t := []) dk_g59 (by decide +kernel)
theorem dJ6_numberOfTrailingZeros_0f7a4_62 : decode cJ6_numberOfTrailingZeros_0f7a4 62 = .ok (.iload_n 0, 1) := dk_n (t := []) dk_g26 (by decide +kernel)
theorem dJ6_numberOfTrailingZeros_0f7a4_63 : decode cJ6_numberOfTrailingZeros_0f7a4 63 = .ok (.iconst 4, 1) := dk_n (t := []) dk_g7 (by decide +kernel)
theorem dJ6_numberOfTrailingZeros_0f7a4_64 : decode cJ6_numberOfTrailingZeros_0f7a4 64 = .ok (.if_icmp .le 10, 3) := dk_s2 (y := 0) (z := 10) dk_g164 (by decide +kernel) rfl
theorem dJ6_numberOfTrailingZeros_0f7a4_67 : decode cJ6_numberOfTrailingZeros_0f7a4 67 = .ok (.iinc 1 2, 3) := dk_ii (y := 1) (z := 2) dk_g132 (by decide +kernel) rfl
theorem dJ6_numberOfTrailingZeros_0f7a4_70 : decode cJ6_numberOfTrailingZeros_0f7a4 70 = .ok (.iload_n 0, 1) := dk_n (t := []) dk_g26 (by decide +kernel)
theorem dJ6_numberOfTrailingZeros_0f7a4_71 : decode cJ6_numberOfTrailingZeros_0f7a4 71 = .ok (.iconst 2, 1) := dk_n (t := []) dk_g5 (by decide +kernel)
theorem dJ6_numberOfTrailingZeros_0f7a4_72 : decode cJ6_numberOfTrailingZeros_0f7a4 72 = .ok (.iushr, 1) := dk_n (t := []) dk_g124 (by decide +kernel)
theorem dJ6_numberOfTrailingZeros_0f7a4_73 : decode cJ6_numberOfTrailingZeros_0f7a4 73 = .ok (.istore_n 0, 1) := dk_n (t := []) dk_g59 (by decide +kernel)
theorem dJ6_numberOfTrailingZeros_0f7a4_74 : decode cJ6_numberOfTrailingZeros_0f7a4 74 = .ok (.iload_n 1, 1) := dk_n (t := []) dk_g27 (by decide +kernel)
theorem dJ6_numberOfTrailingZeros_0f7a4_75 : decode cJ6_numberOfTrailingZeros_0f7a4 75 = .ok (.iload_n 0, 1) := dk_n (t := []) dk_g26 (by decide +kernel)
theorem dJ6_numberOfTrailingZeros_0f7a4_76 : decode cJ6_numberOfTrailingZeros_0f7a4 76 = .ok (.iconst 1, 1) := dk_n (t := []) dk_g4 (by decide +kernel)
theorem dJ6_numberOfTrailingZeros_0f7a4_77 : decode cJ6_numberOfTrailingZeros_0f7a4 77 = .ok (.iushr, 1) := dk_n (t := []) dk_g124 (by decide +kernel)
theorem dJ6_numberOfTrailingZeros_0f7a4_78 : decode cJ6_numberOfTrailingZeros_0f7a4 78 = .ok (.iadd, 1) := dk_n (t := []) dk_g96 (by decide +kernel)
theorem dJ6_numberOfTrailingZeros_0f7a4_79 : decode cJ6_numberOfTrailingZeros_0f7a4 79 = .ok (.ireturn, 1) := dk_n (t := []) dk_g172 (by decide +kernel)
theorem dJ6_bitCount_0f7a4_0 : decode cJ6_bitCount_0f7a4 0 = .ok (.iload_n 0, 1) := dk_n (t := []) dk_g26 (by decide +kernel)
theorem dJ6_bitCount_0f7a4_1 : decode cJ6_bitCount_0f7a4 1 = .ok (.iload_n 0, 1) := dk_n (t := []) dk_g26 (by decide +kernel)
theorem dJ6_bitCount_0f7a4_2 : decode cJ6_bitCount_0f7a4 2 = .ok (.iconst 1, 1) := dk_n (t := []) dk_g4 (by decide +kernel)
theorem dJ6_bitCount_0f7a4_3 : decode cJ6_bitCount_0f7a4 3 = .ok (.iushr, 1) := dk_n (t := []) dk_g124 (by decide +kernel)
theorem dJ6_bitCount_0f7a4_4 : decode cJ6_bitCount_0f7a4 4 = .ok (.ldc_w 265, 3) := dk_u2 (y := 1) (z := 9) dk_g19 (by decide +kernel) rfl
theorem dJ6_bitCount_0f7a4_7 : decode cJ6_bitCount_0f7a4 7 = .ok (.iand, 1) := dk_n (t := []) dk_g126 (by decide +kernel)
theorem dJ6_bitCount_0f7a4_8 : decode cJ6_bitCount_0f7a4 8 = .ok (.isub, 1) := dk_n (t := []) dk_g100 (by decide +kernel)
theorem dJ6_bitCount_0f7a4_9 : decode cJ6_bitCount_0f7a4 9 = .ok (.istore_n 0, 1) := dk_n (t := []) dk_g59 (by decide +kernel)
theorem dJ6_bitCount_0f7a4_10 : decode cJ6_bitCount_0f7a4 10 = .ok (.iload_n 0, 1) := dk_n (t := []) dk_g26 (by decide +kernel)
theorem dJ6_bitCount_0f7a4_11 : decode cJ6_bitCount_0f7a4 11 = .ok (.ldc_w 266, 3) := dk_u2 (y := 1) (z := 10) dk_g19 (by decide +kernel) rfl
theorem dJ6_bitCount_0f7a4_14 : decode cJ6_bitCount_0f7a4 14 = .ok (.iand, 1) := dk_n (t := []) dk_g126 (by decide +kernel)
theorem dJ6_bitCount_0f7a4_15 : decode cJ6_bitCount_0f7a4 15 = .ok (.iload_n 0, 1) := dk_n (t := []) dk_g26 (by decide +kernel)
theorem dJ6_bitCount_0f7a4_16 : decode cJ6_bitCount_0f7a4 16 = .ok (.iconst 2, 1) := dk_n (t := []) dk_g5 (by decide +kernel)
theorem dJ6_bitCount_0f7a4_17 : decode cJ6_bitCount_0f7a4 17 = .ok (.iushr, 1) := dk_n (t := []) dk_g124 (by decide +kernel)
theorem dJ6_bitCount_0f7a4_18 : decode cJ6_bitCount_0f7a4 18 = .ok (.ldc_w 266, 3) := dk_u2 (y := 1) (z := 10) dk_g19 (by decide +kernel) rfl
theorem dJ6_bitCount_0f7a4_21 : decode cJ6_bitCount_0f7a4 21 = .ok (.iand, 1) := dk_n (t := []) dk_g126 (by decide +kernel)
theorem dJ6_bitCount_0f7a4_22 : decode cJ6_bitCount_0f7a4 22 = .ok (.iadd, 1) := dk_n (t := []) dk_g96 (by decide +kernel)
theorem dJ6_bitCount_0f7a4_23 : decode cJ6_bitCount_0f7a4 23 = .ok (.istore_n 0, 1) := dk_n (t := []) dk_g59 (by decide +kernel)
theorem dJ6_bitCount_0f7a4_24 : decode cJ6_bitCount_0f7a4 24 = .ok (.iload_n 0, 1) := dk_n (t := []) dk_g26 (by decide +kernel)
theorem dJ6_bitCount_0f7a4_25 : decode cJ6_bitCount_0f7a4 25 = .ok (.iload_n 0, 1) := dk_n (t := []) dk_g26 (by decide +kernel)
theorem dJ6_bitCount_0f7a4_26 : decode cJ6_bitCount_0f7a4 26 = .ok (.iconst 4, 1) := dk_n (t := []) dk_g7 (by decide +kernel)
theorem dJ6_bitCount_0f7a4_27 : decode cJ6_bitCount_0f7a4 27 = .ok (.iushr, 1) := dk_n (t := []) dk_g124 (by decide +kernel)
theorem dJ6_bitCount_0f7a4_28 : decode cJ6_bitCount_0f7a4 28 = .ok (.iadd, 1) := dk_n (t := []) dk_g96 (by decide +kernel)
theorem dJ6_bitCount_0f7a4_29 : decode cJ6_bitCount_0f7a4 29 = .ok (.ldc_w 267, 3) := dk_u2 (y := 1) (z := 11) dk_g19 (by decide +kernel) rfl
theorem dJ6_bitCount_0f7a4_32 : decode cJ6_bitCount_0f7a4 32 = .ok (.iand, 1) := dk_n (t := []) dk_g126 (by decide +kernel)
theorem dJ6_bitCount_0f7a4_33 : decode cJ6_bitCount_0f7a4 33 = .ok (.istore_n 0, 1) := dk_n (t := []) dk_g59 (by decide +kernel)
theorem dJ6_bitCount_0f7a4_34 : decode cJ6_bitCount_0f7a4 34 = .ok (.iload_n 0, 1) := dk_n (t := []) dk_g26 (by decide +kernel)
theorem dJ6_bitCount_0f7a4_35 : decode cJ6_bitCount_0f7a4 35 = .ok (.iload_n 0, 1) := dk_n (t := []) dk_g26 (by decide +kernel)
theorem dJ6_bitCount_0f7a4_36 : decode cJ6_bitCount_0f7a4 36 = .ok (.bipush 8, 2) := dk_s1 (y := 8) dk_g16 (by decide +kernel) rfl
theorem dJ6_bitCount_0f7a4_38 : decode cJ6_bitCount_0f7a4 38 = .ok (.iushr, 1) := dk_n (t := []) dk_g124 (by decide +kernel)
theorem dJ6_bitCount_0f7a4_39 : decode cJ6_bitCount_0f7a4 39 = .ok (.iadd, 1) := dk_n (t := []) dk_g96 (by decide +kernel)
theorem dJ6_bitCount_0f7a4_40 : decode cJ6_bitCount_0f7a4 40 = .ok (.istore_n 0, 1) := dk_n (t := []) dk_g59 (by decide +kernel)
theorem dJ6_bitCount_0f7a4_41 : decode cJ6_bitCount_0f7a4 41 = .ok (.iload_n 0, 1) := dk_n (t := []) dk_g26 (by decide +kernel)
theorem dJ6_bitCount_0f7a4_42 : decode cJ6_bitCount_0f7a4 42 = .ok (.iload_n 0, 1) := dk_n (t := []) dk_g26 (by decide +kernel)
theorem dJ6_bitCount_0f7a4_43 : decode cJ6_bitCount_0f7a4 43 = .ok (.bipush 16, 2) := dk_s1 (y := 16) dk_g16 (by decide +kernel) rfl
theorem dJ6_bitCount_0f7a4_45 : decode cJ6_bitCount_0f7a4 45 = .ok (.iushr, 1) := dk_n (t := []) dk_g124 (by decide +kernel)
theorem dJ6_bitCount_0f7a4_46 : decode cJ6_bitCount_0f7a4 46 = .ok (.iadd, 1) := dk_n (t := []) dk_g96 (by decide +kernel)
theorem dJ6_bitCount_0f7a4_47 : decode cJ6_bitCount_0f7a4 47 = .ok (.istore_n 0, 1) := dk_n (t := []) dk_g59 (by decide +kernel)
theorem dJ6_bitCount_0f7a4_48 : decode cJ6_bitCount_0f7a4 48 = .ok (.iload_n 0, 1) := dk_n (t := []) dk_g26 (by decide +kernel)
theorem dJ6_bitCount_0f7a4_49 : decode cJ6_bitCount_0f7a4 49 = .ok (.bipush 63, 2) := dk_s1 (y := 63) dk_g16 (by decide +kernel) rfl
theorem dJ6_bitCount_0f7a4_51 : decode cJ6_bitCount_0f7a4 51 = .ok (.iand, 1) := dk_n (t := []) dk_g126 (by decide +kernel)
theorem dJ6_bitCount_0f7a4_52 : decode cJ6_bitCount_0f7a4 52 = .ok (.ireturn, 1) := dk_n (t := []) dk_g172 (by decide +kernel)
theorem dJ9_max_7cf53_0 : decode cJ9_max_7cf53 0 = .ok (.iload_n 0, 1) := dk_n (t := []) dk_g26 (by decide +kernel)
theorem dJ9_max_7cf53_1 : decode cJ9_max_7cf53 1 = .ok (.iload_n 1, 1) := dk_n (t := []) dk_g27 (by decide +kernel)
theorem dJ9_max_7cf53_2 : decode cJ9_max_7cf53 2 = .ok (.if_icmp .lt 7, 3) := dk_s2 (y := 0) (z := 7) dk_g161 (by decide +kernel) rfl
theorem dJ9_max_7cf53_5 : decode cJ9_max_7cf53 5 = .ok (.iload_n 0, 1) := dk_n (t := []) dk_g26 (by decide +kernel)
theorem dJ9_max_7cf53_6 : decode cJ9_max_7cf53 6 = .ok (.goto 4, 3) := dk_s2 (y := 0) (z := 4) dk_g167 (by decide +kernel) rfl
theorem dJ9_max_7cf53_9 : decode cJ9_max_7cf53 9 = .ok (.iload_n 1, 1) := dk_n (t := []) dk_g27 (by decide +kernel)
theorem dJ9_max_7cf53_10 : decode cJ9_max_7cf53 10 = .ok (.ireturn, 1) := dk_n (t := []) dk_g172 (by decide +kernel)
theorem dJ9_min_7cf53_0 : decode cJ9_min_7cf53 0 = .ok (.iload_n 0, 1) := dk_n (t := []) dk_g26 (by decide +kernel)
theorem dJ9_min_7cf53_1 : decode cJ9_min_7cf53 1 = .ok (.iload_n 1, 1) := dk_n (t := []) dk_g27 (by decide +kernel)
theorem dJ9_min_7cf53_2 : decode cJ9_min_7cf53 2 = .ok (.if_icmp .gt 7, 3) := dk_s2 (y := 0) (z := 7) dk_g163 (by decide +kernel) rfl
theorem dJ9_min_7cf53_5 : decode cJ9_min_7cf53 5 = .ok (.iload_n 0, 1) := dk_n (t := []) dk_g26 (by decide +kernel)
theorem dJ9_min_7cf53_6 : decode cJ9_min_7cf53 6 = .ok (.goto 4, 3) := dk_s2 (y := 0) (z := 4) dk_g167 (by decide +kernel) rfl
theorem dJ9_min_7cf53_9 : decode cJ9_min_7cf53 9 = .ok (.iload_n 1, 1) := dk_n (t := []) dk_g27 (by decide +kernel)
theorem dJ9_min_7cf53_10 : decode cJ9_min_7cf53 10 = .ok (.ireturn, 1) := dk_n (t := []) dk_g172 (by decide +kernel)
theorem dJ0_init_81219_0 : decode cJ0_init_81219 0 = .ok (.aload_n 0, 1) := dk_n (t := []) dk_g42 (by decide +kernel)
theorem dJ0_init_81219_1 : decode cJ0_init_81219 1 = .ok (.aload_n 1, 1) := dk_n (t := []) dk_g43 (by decide +kernel)
theorem dJ0_init_81219_2 : decode cJ0_init_81219 2 = .ok (.aconst_null, 1) := dk_n (t := []) dk_g1 (by decide +kernel)
theorem dJ0_init_81219_3 : decode cJ0_init_81219 3 = .ok (.invokespecial 489, 3) := dk_u2 (y := 1) (z := 233) dk_g183 (by decide +kernel) rfl
theorem dJ0_init_81219_6 : decode cJ0_init_81219 6 = .ok (.return_, 1) := dk_n (t := []) dk_g177 (by decide +kernel)
theorem dJ0_length_8abf5_0 : decode cJ0_length_8abf5 0 = .ok (.aload_n 0, 1) := dk_n (t := []) dk_g42 (by decide +kernel)
theorem dJ0_length_8abf5_1 : decode cJ0_length_8abf5 1 = .ok (.getfield 9, 3) := dk_u2 (y := 0) (z := 9) dk_g180 (by decide +kernel) rfl
theorem dJ0_length_8abf5_4 : decode cJ0_length_8abf5 4 = .ok (.arraylength, 1) := dk_n (t := []) dk_g190 (by decide +kernel)
theorem dJ0_length_8abf5_5 : decode cJ0_length_8abf5 5 = .ok (.aload_n 0, 1) := dk_n (t := []) dk_g42 (by decide +kernel)
theorem dJ0_length_8abf5_6 : decode cJ0_length_8abf5 6 = .ok (.invokevirtual 335, 3) := dk_u2 (y := 1) (z := 79) dk_g182 (by decide +kernel) rfl
theorem dJ0_length_8abf5_9 : decode cJ0_length_8abf5 9 = .ok (.ishr, 1) := dk_n (t := []) dk_g122 (by decide +kernel)
theorem dJ0_length_8abf5_10 : decode cJ0_length_8abf5 10 = .ok (.ireturn, 1) := dk_n (t := []) dk_g172 (by decide +kernel)
theorem dJ0_getBytes_840e7_0 : decode cJ0_getBytes_840e7 0 = .ok (.aload_n 0, 1) := dk_n (t := []) dk_g42 (by decide +kernel)
theorem dJ0_getBytes_840e7_1 : decode cJ0_getBytes_840e7 1 = .ok (.invokevirtual 335, 3) := dk_u2 (y := 1) (z := 79) dk_g182 (by decide +kernel) rfl
theorem dJ0_getBytes_840e7_4 : decode cJ0_getBytes_840e7 4 = .ok (.iload_n 3, 1) := dk_n (t := []) dk_g29 (by decide +kernel)
theorem dJ0_getBytes_840e7_5 : decode cJ0_getBytes_840e7 5 = .ok (.if_icmp .ne 23, 3) := dk_s2 (y := 0) (z := 23) dk_g160 (by decide +kernel) rfl
theorem dJ0_getBytes_840e7_8 : decode cJ0_getBytes_840e7 8 = .ok (.aload_n 0, 1) := dk_n (t := []) dk_g42 (by decide +kernel)
theorem dJ0_getBytes_840e7_9 : decode cJ0_getBytes_840e7 9 = .ok (.getfield 9, 3) := dk_u2 (y := 0) (z := 9) dk_g180 (by decide +kernel) rfl
theorem dJ0_getBytes_840e7_12 : decode cJ0_getBytes_840e7 12 = .ok (.iconst 0, 1) := dk_n (t := []) dk_g3 (by decide +kernel)
theorem dJ0_getBytes_840e7_13 : decode cJ0_getBytes_840e7 13 = .ok (.aload_n 1, 1) := dk_n (t := []) dk_g43 (by decide +kernel)
theorem dJ0_getBytes_840e7_14 : decode cJ0_getBytes_840e7 14 = .ok (.iload_n 2, 1) := dk_n (t := []) dk_g28 (by decide +kernel)
theorem dJ0_getBytes_840e7_15 : decode cJ0_getBytes_840e7 15 = .ok (.iload_n 3, 1) := dk_n (t := []) dk_g29 (by decide +kernel)
theorem dJ0_getBytes_840e7_16 : decode cJ0_getBytes_840e7 16 = .ok (.ishl, 1) := dk_n (t := []) dk_g120 (by decide +kernel)
theorem dJ0_getBytes_840e7_17 : decode cJ0_getBytes_840e7 17 = .ok (.aload_n 0, 1) := dk_n (t := []) dk_g42 (by decide +kernel)
theorem dJ0_getBytes_840e7_18 : decode cJ0_getBytes_840e7 18 = .ok (.getfield 9, 3) := dk_u2 (y := 0) (z := 9) dk_g180 (by decide +kernel) rfl
theorem dJ0_getBytes_840e7_21 : decode cJ0_getBytes_840e7 21 = .ok (.arraylength, 1) := dk_n (t := []) dk_g190 (by decide +kernel)
theorem dJ0_getBytes_840e7_22 : decode cJ0_getBytes_840e7 22 = .ok (.invokestatic 212, 3) := dk_u2 (y := 0) (z := 212) dk_g184 (by decide +kernel) rfl
theorem dJ0_getBytes_840e7_25 : decode cJ0_getBytes_840e7 25 = .ok (.goto 18, 3) := dk_s2 (y := 0) (z := 18) dk_g167 (by decide +kernel) rfl
theorem dJ0_getBytes_840e7_28 : decode cJ0_getBytes_840e7 28 = .ok (.aload_n 0, 1) := dk_n (t := []) dk_g42 (by decide +kernel)
theorem dJ0_getBytes_840e7_29 : decode cJ0_getBytes_840e7 29 = .ok (.getfield 9, 3) := dk_u2 (y := 0) (z := 9) dk_g180 (by decide +kernel) rfl
theorem dJ0_getBytes_840e7_32 : decode cJ0_getBytes_840e7 32 = .ok (.iconst 0, 1) := dk_n (t := []) dk_g3 (by decide +kernel)
theorem dJ0_getBytes_840e7_33 : decode cJ0_getBytes_840e7 33 = .ok (.aload_n 1, 1) := dk_n (t := []) dk_g43 (by decide +kernel)
theorem dJ0_getBytes_840e7_34 : decode cJ0_getBytes_840e7 34 = .ok (.iload_n 2, 1) := dk_n (t := []) dk_g28 (by decide +kernel)
theorem dJ0_getBytes_840e7_35 : decode cJ0_getBytes_840e7 35 = .ok (.aload_n 0, 1) := dk_n (t := []) dk_g42 (by decide +kernel)
theorem dJ0_getBytes_840e7_36 : decode cJ0_getBytes_840e7 36 = .ok (.getfield 9, 3) := dk_u2 (y := 0) (z := 9) dk_g180 (by decide +kernel) rfl
theorem dJ0_getBytes_840e7_39 : decode cJ0_getBytes_840e7 39 = .ok (.arraylength, 1) := dk_n (t := []) dk_g190 (by decide +kernel)
theorem dJ0_getBytes_840e7_40 : decode cJ0_getBytes_840e7 40 = .ok (.invokestatic 106, 3) := dk_u2 (y := 0) (z := 106) dk_g184 (by decide +kernel) rfl
theorem dJ0_getBytes_840e7_43 : decode cJ0_getBytes_840e7 43 = .ok (.return_, 1) := dk_n (t := []) dk_g177 (by decide +kernel)
theorem dJ0_init_db425_0 : decode cJ0_init_db425 0 = .ok (.aload_n 0, 1) := dk_n (t := []) dk_g42 (by decide +kernel)
theorem dJ0_init_db425_1 : decode cJ0_init_db425 1 = .ok (.invokespecial 1, 3) := dk_u2 (y := 0) (z := 1) dk_g183 (by decide +kernel) rfl
theorem dJ0_init_db425_4 : decode cJ0_init_db425 4 = .ok (.aload_n 1, 1) := dk_n (t := []) dk_g43 (by decide +kernel)
theorem dJ0_init_db425_5 : decode cJ0_init_db425 5 = .ok (.invokevirtual 552, 3) := dk_u2 (y := 2) (z := 40) dk_g182 (by decide +kernel) rfl
theorem dJ0_init_db425_8 : decode cJ0_init_db425 8 = .ok (.astore_n 3, 1) := dk_n (t := []) dk_g78 (by decide +kernel)
theorem dJ0_init_db425_9 : decode cJ0_init_db425 9 = .ok (.aload_n 1, 1) := dk_n (t := []) dk_g43 (by decide +kernel)
theorem dJ0_init_db425_10 : decode cJ0_init_db425 10 = .ok (.invokevirtual 549, 3) := dk_u2 (y := 2) (z := 37) dk_g182 (by decide +kernel) rfl
theorem dJ0_init_db425_13 : decode cJ0_init_db425 13 = .ok (.istore 4, 2) := dk_u1 (y := 4) dk_g54 (by decide +kernel)
theorem dJ0_init_db425_15 : decode cJ0_init_db425 15 = .ok (.aload_n 1, 1) := dk_n (t := []) dk_g43 (by decide +kernel)
theorem dJ0_init_db425_16 : decode cJ0_init_db425 16 = .ok (.invokevirtual 1047, 3) := dk_u2 (y := 4) (z := 23) dk_g182 (by decide +kernel) rfl
theorem dJ0_init_db425_19 : decode cJ0_init_db425 19 = .ok (.ifCond .eq 22, 3) := dk_s2 (y := 0) (z := 22) dk_g153 (by decide +kernel) rfl
theorem dJ0_init_db425_22 : decode cJ0_init_db425 22 = .ok (.aload_n 0, 1) := dk_n (t := []) dk_g42 (by decide +kernel)
theorem dJ0_init_db425_23 : decode cJ0_init_db425 23 = .ok (.iconst 0, 1) := dk_n (t := []) dk_g3 (by decide +kernel)
theorem dJ0_init_db425_24 : decode cJ0_init_db425 24 = .ok (.putfield 15, 3) := dk_u2 (y := 0) (z := 15) dk_g181 (by decide +kernel) rfl
theorem dJ0_init_db425_27 : decode cJ0_init_db425 27 = .ok (.aload_n 0, 1) := dk_n (t := []) dk_g42 (by decide +kernel)
theorem dJ0_init_db425_28 : decode cJ0_init_db425 28 = .ok (.aload_n 3, 1) := dk_n (t := []) dk_g45 (by decide +kernel)
theorem dJ0_init_db425_29 : decode cJ0_init_db425 29 = .ok (.iconst 0, 1) := dk_n (t := []) dk_g3 (by decide +kernel)
theorem dJ0_init_db425_30 : decode cJ0_init_db425 30 = .ok (.iload 4, 2) := dk_u1 (y := 4) dk_g21 (by decide +kernel)
theorem dJ0_init_db425_32 : decode cJ0_init_db425 32 = .ok (.invokestatic 54, 3) := dk_u2 (y := 0) (z := 54) dk_g184 (by decide +kernel) rfl
theorem dJ0_init_db425_35 : decode cJ0_init_db425 35 = .ok (.putfield 9, 3) := dk_u2 (y := 0) (z := 9) dk_g181 (by decide +kernel) rfl
theorem dJ0_init_db425_38 : decode cJ0_init_db425 38 = .ok (.goto 59, 3) := dk_s2 (y := 0) (z := 59) dk_g167 (by decide +kernel) rfl
theorem dJ0_init_db425_41 : decode cJ0_init_db425 41 = .ok (.getstatic 38, 3) := dk_u2 (y := 0) (z := 38) dk_g178 (by decide +kernel) rfl
theorem dJ0_init_db425_44 : decode cJ0_init_db425 44 = .ok (.ifCond .eq 35, 3) := dk_s2 (y := 0) (z := 35) dk_g153 (by decide +kernel) rfl
theorem dJ0_init_db425_47 : decode cJ0_init_db425 47 = .ok (.aload_n 1, 1) := dk_n (t := []) dk_g43 (by decide +kernel)
theorem dJ0_init_db425_48 : decode cJ0_init_db425 48 = .ok (.getfield 1048, 3) := dk_u2 (y := 4) (z := 24) dk_g180 (by decide +kernel) rfl
theorem dJ0_init_db425_51 : decode cJ0_init_db425 51 = .ok (.ifCond .eq 28, 3) := dk_s2 (y := 0) (z := 28) dk_g153 (by decide +kernel) rfl
theorem dJ0_init_db425_54 : decode cJ0_init_db425 54 = .ok (.aload_n 0, 1) := dk_n (t := []) dk_g42 (by decide +kernel)
theorem dJ0_init_db425_55 : decode cJ0_init_db425 55 = .ok (.aload_n 3, 1) := dk_n (t := []) dk_g45 (by decide +kernel)
theorem dJ0_init_db425_56 : decode cJ0_init_db425 56 = .ok (.iconst 0, 1) := dk_n (t := []) dk_g3 (by decide +kernel)
theorem dJ0_init_db425_57 : decode cJ0_init_db425 57 = .ok (.iload 4, 2) := dk_u1 (y := 4) dk_g21 (by decide +kernel)
theorem dJ0_init_db425_59 : decode cJ0_init_db425 59 = .ok (.invokestatic 1051, 3) := dk_u2 (y := 4) (z := 27) dk_g184 (by decide +kernel) rfl
theorem dJ0_init_db425_62 : decode cJ0_init_db425 62 = .ok (.putfield 9, 3) := dk_u2 (y := 0) (z := 9) dk_g181 (by decide +kernel) rfl
theorem dJ0_init_db425_65 : decode cJ0_init_db425 65 = .ok (.aload_n 0, 1) := dk_n (t := []) dk_g42 (by decide +kernel)
theorem dJ0_init_db425_66 : decode cJ0_init_db425 66 = .ok (.aload_n 0, 1) := dk_n (t := []) dk_g42 (by decide +kernel)
theorem dJ0_init_db425_67 : decode cJ0_init_db425 67 = .ok (.getfield 9, 3) := dk_u2 (y := 0) (z := 9) dk_g180 (by decide +kernel) rfl
theorem dJ0_init_db425_70 : decode cJ0_init_db425 70 = .ok (.iload 4, 2) := dk_u1 (y := 4) dk_g21 (by decide +kernel)
theorem dJ0_init_db425_72 : decode cJ0_init_db425 72 = .ok (.invokestatic 47, 3) := dk_u2 (y := 0) (z := 47) dk_g184 (by decide +kernel) rfl
theorem dJ0_init_db425_75 : decode cJ0_init_db425 75 = .ok (.putfield 15, 3) := dk_u2 (y := 0) (z := 15) dk_g181 (by decide +kernel) rfl
theorem dJ0_init_db425_78 : decode cJ0_init_db425 78 = .ok (.return_, 1) := dk_n (t := []) dk_g177 (by decide +kernel)
theorem dJ0_init_db425_79 : decode cJ0_init_db425 79 = .ok (.aload_n 0, 1) := dk_n (t := []) dk_g42 (by decide +kernel)
theorem dJ0_init_db425_80 : decode cJ0_init_db425 80 = .ok (.iconst 1, 1) := dk_n (t := []) dk_g4 (by decide +kernel)
theorem dJ0_init_db425_81 : decode cJ0_init_db425 81 = .ok (.putfield 15, 3) := dk_u2 (y := 0) (z := 15) dk_g181 (by decide +kernel) rfl
theorem dJ0_init_db425_84 : decode cJ0_init_db425 84 = .ok (.aload_n 0, 1) := dk_n (t := []) dk_g42 (by decide +kernel)
theorem dJ0_init_db425_85 : decode cJ0_init_db425 85 = .ok (.aload_n 3, 1) := dk_n (t := []) dk_g45 (by decide +kernel)
theorem dJ0_init_db425_86 : decode cJ0_init_db425 86 = .ok (.iconst 0, 1) := dk_n (t := []) dk_g3 (by decide +kernel)
theorem dJ0_init_db425_87 : decode cJ0_init_db425 87 = .ok (.iload 4, 2) := dk_u1 (y := 4) dk_g21 (by decide +kernel)
theorem dJ0_init_db425_89 : decode cJ0_init_db425 89 = .ok (.iconst 1, 1) := dk_n (t := []) dk_g4 (by decide +kernel)
theorem dJ0_init_db425_90 : decode cJ0_init_db425 90 = .ok (.ishl, 1) := dk_n (t := []) dk_g120 (by decide +kernel)
theorem dJ0_init_db425_91 : decode cJ0_init_db425 91 = .ok (.invokestatic 54, 3) := dk_u2 (y := 0) (z := 54) dk_g184 (by decide +kernel) rfl
theorem dJ0_init_db425_94 : decode cJ0_init_db425 94 = .ok (.putfield 9, 3) := dk_u2 (y := 0) (z := 9) dk_g181 (by decide +kernel) rfl
theorem dJ0_init_db425_97 : decode cJ0_init_db425 97 = .ok (.return_, 1) := dk_n (t := []) dk_g177 (by decide +kernel)
theorem dJ0_coder_7d493_0 : decode cJ0_coder_7d493 0 = .ok (.getstatic 38, 3) := dk_u2 (y := 0) (z := 38) dk_g178 (by decide +kernel) rfl
theorem dJ0_coder_7d493_3 : decode cJ0_coder_7d493 3 = .ok (.ifCond .eq 10, 3) := dk_s2 (y := 0) (z := 10) dk_g153 (by decide +kernel) rfl
theorem dJ0_coder_7d493_6 : decode cJ0_coder_7d493 6 = .ok (.aload_n 0, 1) := dk_n (t := []) dk_g42 (by decide +kernel)
theorem dJ0_coder_7d493_7 : decode cJ0_coder_7d493 7 = .ok (.getfield 15, 3) := dk_u2 (y := 0) (z := 15) dk_g180 (by decide +kernel) rfl
theorem dJ0_coder_7d493_10 : decode cJ0_coder_7d493 10 = .ok (.goto 4, 3) := dk_s2 (y := 0) (z := 4) dk_g167 (by decide +kernel) rfl
theorem dJ0_coder_7d493_13 : decode cJ0_coder_7d493 13 = .ok (.iconst 1, 1) := dk_n (t := []) dk_g4 (by decide +kernel)
theorem dJ0_coder_7d493_14 : decode cJ0_coder_7d493 14 = .ok (.ireturn, 1) := dk_n (t := []) dk_g172 (by decide +kernel)
theorem dJ0_checkIndex_df160_0 : decode cJ0_checkIndex_df160 0 = .ok (.iload_n 0, 1) := dk_n (t := []) dk_g26 (by decide +kernel)
theorem dJ0_checkIndex_df160_1 : decode cJ0_checkIndex_df160 1 = .ok (.iload_n 1, 1) := dk_n (t := []) dk_g27 (by decide +kernel)
theorem dJ0_checkIndex_df160_2 : decode cJ0_checkIndex_df160 2 = .ok (.getstatic 1053, 3) := dk_u2 (y := 4) (z := 29) dk_g178 (by decide +kernel) rfl
theorem dJ0_checkIndex_df160_5 : decode cJ0_checkIndex_df160 5 = .ok (.invokestatic 1059, 3) := dk_u2 (y := 4) (z := 35) dk_g184 (by decide +kernel) rfl
theorem dJ0_checkIndex_df160_8 : decode cJ0_checkIndex_df160 8 = .ok (.pop, 1) := dk_n (t := []) dk_g87 (by decide +kernel)
theorem dJ0_checkIndex_df160_9 : decode cJ0_checkIndex_df160 9 = .ok (.return_, 1) := dk_n (t := []) dk_g177 (by decide +kernel)
theorem dJ0_checkBoundsOffCount_cabcc_0 : decode cJ0_checkBoundsOffCount_cabcc 0 = .ok (.iload_n 0, 1) := dk_n (t := []) dk_g26 (by decide +kernel)
theorem dJ0_checkBoundsOffCount_cabcc_1 : decode cJ0_checkBoundsOffCount_cabcc 1 = .ok (.iload_n 1, 1) := dk_n (t := []) dk_g27 (by decide +kernel)
theorem dJ0_checkBoundsOffCount_cabcc_2 : decode cJ0_checkBoundsOffCount_cabcc 2 = .ok (.iload_n 2, 1) := dk_n (t := []) dk_g28 (by decide +kernel)
theorem dJ0_checkBoundsOffCount_cabcc_3 : decode cJ0_checkBoundsOffCount_cabcc 3 = .ok (.getstatic 1053, 3) := dk_u2 (y := 4) (z := 29) dk_g178 (by decide +kernel) rfl
theorem dJ0_checkBoundsOffCount_cabcc_6 : decode cJ0_checkBoundsOffCount_cabcc 6 = .ok (.invokestatic 1065, 3) := dk_u2 (y := 4) (z := 41) dk_g184 (by decide +kernel) rfl
theorem dJ0_checkBoundsOffCount_cabcc_9 : decode cJ0_checkBoundsOffCount_cabcc 9 = .ok (.ireturn, 1) := dk_n (t := []) dk_g172 (by decide +kernel)
theorem dJ0_checkBoundsBeginEnd_23922_0 : decode cJ0_checkBoundsBeginEnd_23922 0 = .ok (.iload_n 0, 1) := dk_n (t := []) dk_g26 (by decide +kernel)
theorem dJ0_checkBoundsBeginEnd_23922_1 : decode cJ0_checkBoundsBeginEnd_23922 1 = .ok (.iload_n 1, 1) := dk_n (t := []) dk_g27 (by decide +kernel)
theorem dJ0_checkBoundsBeginEnd_23922_2 : decode cJ0_checkBoundsBeginEnd_23922 2 = .ok (.iload_n 2, 1) := dk_n (t := []) dk_g28 (by decide +kernel)
theorem dJ0_checkBoundsBeginEnd_23922_3 : decode cJ0_checkBoundsBeginEnd_23922 3 = .ok (.getstatic 1053, 3) := dk_u2 (y := 4) (z := 29) dk_g178 (by decide +kernel) rfl
theorem dJ0_checkBoundsBeginEnd_23922_6 : decode cJ0_checkBoundsBeginEnd_23922 6 = .ok (.invokestatic 1062, 3) := dk_u2 (y := 4) (z := 38) dk_g184 (by decide +kernel) rfl
theorem dJ0_checkBoundsBeginEnd_23922_9 : decode cJ0_checkBoundsBeginEnd_23922 9 = .ok (.pop, 1) := dk_n (t := []) dk_g87 (by decide +kernel)
theorem dJ0_checkBoundsBeginEnd_23922_10 : decode cJ0_checkBoundsBeginEnd_23922 10 = .ok (.return_, 1) := dk_n (t := []) dk_g177 (by decide +kernel)
theorem dJ4_init_da8c8_0 : decode cJ4_init_da8c8 0 = .ok (.aload_n 0, 1) := dk_n (t := []) dk_g42 (by decide +kernel)
theorem dJ4_init_da8c8_1 : decode cJ4_init_da8c8 1 = .ok (.bipush 16, 2) := dk_s1 (y := 16) dk_g16 (by decide +kernel) rfl
theorem dJ4_init_da8c8_3 : decode cJ4_init_da8c8 3 = .ok (.invokespecial 1, 3) := dk_u2 (y := 0) (z := 1) dk_g183 (by decide +kernel) rfl
theorem dJ4_init_da8c8_6 : decode cJ4_init_da8c8 6 = .ok (.return_, 1) := dk_n (t := []) dk_g177 (by decide +kernel)
theorem dJ4_init_a7421_0 : decode cJ4_init_a7421 0 = .ok (.aload_n 0, 1) := dk_n (t := []) dk_g42 (by decide +kernel)
theorem dJ4_init_a7421_1 : decode cJ4_init_a7421 1 = .ok (.aload_n 1, 1) := dk_n (t := []) dk_g43 (by decide +kernel)
theorem dJ4_init_a7421_2 : decode cJ4_init_a7421 2 = .ok (.invokespecial 7, 3) := dk_u2 (y := 0) (z := 7) dk_g183 (by decide +kernel) rfl
theorem dJ4_init_a7421_5 : decode cJ4_init_a7421 5 = .ok (.return_, 1) := dk_n (t := []) dk_g177 (by decide +kernel)
theorem dJ4_append_15ec4_0 : decode cJ4_append_15ec4 0 = .ok (.aload_n 0, 1) := dk_n (t := []) dk_g42 (by decide +kernel)
theorem dJ4_append_15ec4_1 : decode cJ4_append_15ec4 1 = .ok (.aload_n 1, 1) := dk_n (t := []) dk_g43 (by decide +kernel)
theorem dJ4_append_15ec4_2 : decode cJ4_append_15ec4 2 = .ok (.invokespecial 29, 3) := dk_u2 (y := 0) (z := 29) dk_g183 (by decide +kernel) rfl
theorem dJ4_append_15ec4_5 : decode cJ4_append_15ec4 5 = .ok (.pop, 1) := dk_n (t := []) dk_g87 (by decide +kernel)
theorem dJ4_append_15ec4_6 : decode cJ4_append_15ec4 6 = .ok (.aload_n 0, 1) := dk_n (t := []) dk_g42 (by decide +kernel)
theorem dJ4_append_15ec4_7 : decode cJ4_append_15ec4 7 = .ok (.areturn, 1) := dk_n (t := []) dk_g176 (by decide +kernel)
theorem dJ4_append_cf468_0 : decode cJ4_append_cf468 0 = .ok (.aload_n 0, 1) := dk_n (t := []) dk_g42 (by decide +kernel)
theorem dJ4_append_cf468_1 : decode cJ4_append_cf468 1 = .ok (.iload_n 1, 1) := dk_n (t := []) dk_g27 (by decide +kernel)
theorem dJ4_append_cf468_2 : decode cJ4_append_cf468 2 = .ok (.invokespecial 50, 3) := dk_u2 (y := 0) (z := 50) dk_g183 (by decide +kernel) rfl
theorem dJ4_append_cf468_5 : decode cJ4_append_cf468 5 = .ok (.pop, 1) := dk_n (t := []) dk_g87 (by decide +kernel)
theorem dJ4_append_cf468_6 : decode cJ4_append_cf468 6 = .ok (.aload_n 0, 1) := dk_n (t := []) dk_g42 (by decide +kernel)
theorem dJ4_append_cf468_7 : decode cJ4_append_cf468 7 = .ok (.areturn, 1) := dk_n (t := []) dk_g176 (by decide +kernel)
theorem dJ4_append_bf812_0 : decode cJ4_append_bf812 0 = .ok (.aload_n 0, 1) := dk_n (t := []) dk_g42 (by decide +kernel)
theorem dJ4_append_bf812_1 : decode cJ4_append_bf812 1 = .ok (.iload_n 1, 1) := dk_n (t := []) dk_g27 (by decide +kernel)
theorem dJ4_append_bf812_2 : decode cJ4_append_bf812 2 = .ok (.invokespecial 53, 3) := dk_u2 (y := 0) (z := 53) dk_g183 (by decide +kernel) rfl
theorem dJ4_append_bf812_5 : decode cJ4_append_bf812 5 = .ok (.pop, 1) := dk_n (t := []) dk_g87 (by decide +kernel)
theorem dJ4_append_bf812_6 : decode cJ4_append_bf812 6 = .ok (.aload_n 0, 1) := dk_n (t := []) dk_g42 (by decide +kernel)
theorem dJ4_append_bf812_7 : decode cJ4_append_bf812 7 = .ok (.areturn, 1) := dk_n (t := []) dk_g176 (by decide +kernel)
theorem dJ4_toString_0e30d_0 : decode cJ4_toString_0e30d 0 = .ok (.new 18, 3) := dk_u2 (y := 0) (z := 18) dk_g187 (by decide +kernel) rfl
theorem dJ4_toString_0e30d_3 : decode cJ4_toString_0e30d 3 = .ok (.dup, 1) := dk_n (t := []) dk_g89 (by decide +kernel)
theorem dJ4_toString_0e30d_4 : decode cJ4_toString_0e30d 4 = .ok (.aload_n 0, 1) := dk_n (t := []) dk_g42 (by decide +kernel)
theorem dJ4_toString_0e30d_5 : decode cJ4_toString_0e30d 5 = .ok (.invokespecial 137, 3) := dk_u2 (y := 0) (z := 137) dk_g183 (by decide +kernel) rfl
theorem dJ4_toString_0e30d_8 : decode cJ4_toString_0e30d 8 = .ok (.areturn, 1) := dk_n (t := []) dk_g176 (by decide +kernel)
theorem dJ4_append_cf1ce_0 : decode cJ4_append_cf1ce 0 = .ok (.aload_n 0, 1) := dk_n (t := []) dk_g42 (by decide +kernel)
theorem dJ4_append_cf1ce_1 : decode cJ4_append_cf1ce 1 = .ok (.aload_n 1, 1) := dk_n (t := []) dk_g43 (by decide +kernel)
theorem dJ4_append_cf1ce_2 : decode cJ4_append_cf1ce 2 = .ok (.invokevirtual 23, 3) := dk_u2 (y := 0) (z := 23) dk_g182 (by decide +kernel) rfl
theorem dJ4_append_cf1ce_5 : decode cJ4_append_cf1ce 5 = .ok (.areturn, 1) := dk_n (t := []) dk_g176 (by decide +kernel)
theorem dJ4_length_8abf5_0 : decode cJ4_length_8abf5 0 = .ok (.aload_n 0, 1) := dk_n (t := []) dk_g42 (by decide +kernel)
theorem dJ4_length_8abf5_1 : decode cJ4_length_8abf5 1 = .ok (.invokespecial 343, 3) := dk_u2 (y := 1) (z := 87) dk_g183 (by decide +kernel) rfl
theorem dJ4_length_8abf5_4 : decode cJ4_length_8abf5 4 = .ok (.ireturn, 1) := dk_n (t := []) dk_g172 (by decide +kernel)
theorem dJ1_canEncode_fc78d_0 : decode cJ1_canEncode_fc78d 0 = .ok (.iload_n 0, 1) := dk_n (t := []) dk_g26 (by decide +kernel)
theorem dJ1_canEncode_fc78d_1 : decode cJ1_canEncode_fc78d 1 = .ok (.sipush 255, 3) := dk_s2 (y := 0) (z := 255) dk_g17 (by decide +kernel) rfl
theorem dJ1_canEncode_fc78d_4 : decode cJ1_canEncode_fc78d 4 = .ok (.if_icmp .gt 7, 3) := dk_s2 (y := 0) (z := 7) dk_g163 (by decide +kernel) rfl
theorem dJ1_canEncode_fc78d_7 : decode cJ1_canEncode_fc78d 7 = .ok (.iconst 1, 1) := dk_n (t := []) dk_g4 (by decide +kernel)
theorem dJ1_canEncode_fc78d_8 : decode cJ1_canEncode_fc78d 8 = .ok (.goto 4, 3) := dk_s2 (y := 0) (z := 4) dk_g167 (by decide +kernel) rfl
theorem dJ1_canEncode_fc78d_11 : decode cJ1_canEncode_fc78d 11 = .ok (.iconst 0, 1) := dk_n (t := []) dk_g3 (by decide +kernel)
theorem dJ1_canEncode_fc78d_12 : decode cJ1_canEncode_fc78d 12 = .ok (.ireturn, 1) := dk_n (t := []) dk_g172 (by decide +kernel)
theorem dJ1_inflate_0e8fd_0 : decode cJ1_inflate_0e8fd 0 = .ok (.aload_n 0, 1) := dk_n (t := []) dk_g42 (by decide +kernel)
theorem dJ1_inflate_0e8fd_1 : decode cJ1_inflate_0e8fd 1 = .ok (.iload_n 1, 1) := dk_n (t := []) dk_g27 (by decide +kernel)
theorem dJ1_inflate_0e8fd_2 : decode cJ1_inflate_0e8fd 2 = .ok (.aload_n 2, 1) := dk_n (t := []) dk_g44 (by decide +kernel)
theorem dJ1_inflate_0e8fd_3 : decode cJ1_inflate_0e8fd 3 = .ok (.iload_n 3, 1) := dk_n (t := []) dk_g29 (by decide +kernel)
theorem dJ1_inflate_0e8fd_4 : decode cJ1_inflate_0e8fd 4 = .ok (.iload 4, 2) := dk_u1 (y := 4) dk_g21 (by decide +kernel)
theorem dJ1_inflate_0e8fd_6 : decode cJ1_inflate_0e8fd 6 = .ok (.invokestatic 240, 3) := dk_u2 (y := 0) (z := 240) dk_g184 (by decide +kernel) rfl
theorem dJ1_inflate_0e8fd_9 : decode cJ1_inflate_0e8fd 9 = .ok (.return_, 1) := dk_n (t := []) dk_g177 (by decide +kernel)
theorem dJ2_newBytesFor_77867_0 : decode cJ2_newBytesFor_77867 0 = .ok (.iload_n 0, 1) := dk_n (t := []) dk_g26 (by decide +kernel)
theorem dJ2_newBytesFor_77867_1 : decode cJ2_newBytesFor_77867 1 = .ok (.invokestatic 11, 3) := dk_u2 (y := 0) (z := 11) dk_g184 (by decide +kernel) rfl
theorem dJ2_newBytesFor_77867_4 : decode cJ2_newBytesFor_77867 4 = .ok (.newarray .byte, 2) := by decide +kernel
theorem dJ2_newBytesFor_77867_6 : decode cJ2_newBytesFor_77867 6 = .ok (.areturn, 1) := dk_n (t := []) dk_g176 (by decide +kernel)
theorem dJ2_newBytesLength_0f7a4_0 : decode cJ2_newBytesLength_0f7a4 0 = .ok (.iload_n 0, 1) := dk_n (t := []) dk_g26 (by decide +kernel)
theorem dJ2_newBytesLength_0f7a4_1 : decode cJ2_newBytesLength_0f7a4 1 = .ok (.ifCond .ge 11, 3) := dk_s2 (y := 0) (z := 11) dk_g156 (by decide +kernel) rfl
theorem dJ2_newBytesLength_0f7a4_4 : decode cJ2_newBytesLength_0f7a4 4 = .ok (.new 17, 3) := dk_u2 (y := 0) (z := 17) dk_g187 (by decide +kernel) rfl
theorem dJ2_newBytesLength_0f7a4_7 : decode cJ2_newBytesLength_0f7a4 7 = .ok (.dup, 1) := dk_n (t := []) dk_g89 (by decide +kernel)
theorem dJ2_newBytesLength_0f7a4_8 : decode cJ2_newBytesLength_0f7a4 8 = .ok (.invokespecial 19, 3) := dk_u2 (y := 0) (z := 19) dk_g183 (by decide +kernel) rfl
theorem dJ2_newBytesLength_0f7a4_11 : decode cJ2_newBytesLength_0f7a4 11 = .ok (.athrow, 1) := dk_n (t := []) dk_g191 (by decide +kernel)
theorem dJ2_newBytesLength_0f7a4_12 : decode cJ2_newBytesLength_0f7a4 12 = .ok (.iload_n 0, 1) := dk_n (t := []) dk_g26 (by decide +kernel)
theorem dJ2_newBytesLength_0f7a4_13 : decode cJ2_newBytesLength_0f7a4 13 = .ok (.ldc 20, 2) := dk_u1 (y := 20) dk_g18 (by decide +kernel)
theorem dJ2_newBytesLength_0f7a4_15 : decode cJ2_newBytesLength_0f7a4 15 = .ok (.if_icmp .lt 40, 3) := dk_s2 (y := 0) (z := 40) dk_g161 (by decide +kernel) rfl
theorem dJ2_newBytesLength_0f7a4_18 : decode cJ2_newBytesLength_0f7a4 18 = .ok (.new 21, 3) := dk_u2 (y := 0) (z := 21) dk_g187 (by decide +kernel) rfl
theorem dJ2_newBytesLength_0f7a4_21 : decode cJ2_newBytesLength_0f7a4 21 = .ok (.dup, 1) := dk_n (t := []) dk_g89 (by decide +kernel)
theorem dJ2_newBytesLength_0f7a4_22 : decode cJ2_newBytesLength_0f7a4 22 = .ok (.new 23, 3) := dk_u2 (y := 0) (z := 23) dk_g187 (by decide +kernel) rfl
theorem dJ2_newBytesLength_0f7a4_25 : decode cJ2_newBytesLength_0f7a4 25 = .ok (.dup, 1) := dk_n (t := []) dk_g89 (by decide +kernel)
theorem dJ2_newBytesLength_0f7a4_26 : decode cJ2_newBytesLength_0f7a4 26 = .ok (.invokespecial 25, 3) := dk_u2 (y := 0) (z := 25) dk_g183 (by decide +kernel) rfl
theorem dJ2_newBytesLength_0f7a4_29 : decode cJ2_newBytesLength_0f7a4 29 = .ok (.ldc 26, 2) := dk_u1 (y := 26) dk_g18 (by decide +kernel)
theorem dJ2_newBytesLength_0f7a4_31 : decode cJ2_newBytesLength_0f7a4 31 = .ok (.invokevirtual 28, 3) := dk_u2 (y := 0) (z := 28) dk_g182 (by decide +kernel) rfl
theorem dJ2_newBytesLength_0f7a4_34 : decode cJ2_newBytesLength_0f7a4 34 = .ok (.iload_n 0, 1) := dk_n (t := []) dk_g26 (by decide +kernel)
theorem dJ2_newBytesLength_0f7a4_35 : decode cJ2_newBytesLength_0f7a4 35 = .ok (.invokevirtual 32, 3) := dk_u2 (y := 0) (z := 32) dk_g182 (by decide +kernel) rfl
theorem dJ2_newBytesLength_0f7a4_38 : decode cJ2_newBytesLength_0f7a4 38 = .ok (.ldc 35, 2) := dk_u1 (y := 35) dk_g18 (by decide +kernel)
theorem dJ2_newBytesLength_0f7a4_40 : decode cJ2_newBytesLength_0f7a4 40 = .ok (.invokevirtual 28, 3) := dk_u2 (y := 0) (z := 28) dk_g182 (by decide +kernel) rfl
theorem dJ2_newBytesLength_0f7a4_43 : decode cJ2_newBytesLength_0f7a4 43 = .ok (.ldc 20, 2) := dk_u1 (y := 20) dk_g18 (by decide +kernel)
theorem dJ2_newBytesLength_0f7a4_45 : decode cJ2_newBytesLength_0f7a4 45 = .ok (.invokevirtual 32, 3) := dk_u2 (y := 0) (z := 32) dk_g182 (by decide +kernel) rfl
theorem dJ2_newBytesLength_0f7a4_48 : decode cJ2_newBytesLength_0f7a4 48 = .ok (.invokevirtual 37, 3) := dk_u2 (y := 0) (z := 37) dk_g182 (by decide +kernel) rfl
theorem dJ2_newBytesLength_0f7a4_51 : decode cJ2_newBytesLength_0f7a4 51 = .ok (.invokespecial 41, 3) := dk_u2 (y := 0) (z := 41) dk_g183 (by decide +kernel) rfl
theorem dJ2_newBytesLength_0f7a4_54 : decode cJ2_newBytesLength_0f7a4 54 = .ok (.athrow, 1) := dk_n (t := []) dk_g191 (by decide +kernel)
theorem dJ2_newBytesLength_0f7a4_55 : decode cJ2_newBytesLength_0f7a4 55 = .ok (.iload_n 0, 1) := dk_n (t := []) dk_g26 (by decide +kernel)
theorem dJ2_newBytesLength_0f7a4_56 : decode cJ2_newBytesLength_0f7a4 56 = .ok (.iconst 1, 1) := dk_n (t := []) dk_g4 (by decide +kernel)
theorem dJ2_newBytesLength_0f7a4_57 : decode cJ2_newBytesLength_0f7a4 57 = .ok (.ishl, 1) := dk_n (t := []) dk_g120 (by decide +kernel)
theorem dJ2_newBytesLength_0f7a4_58 : decode cJ2_newBytesLength_0f7a4 58 = .ok (.ireturn, 1) := dk_n (t := []) dk_g172 (by decide +kernel)
theorem dJ2_putChar_b72d1_0 : decode cJ2_putChar_b72d1 0 = .ok (.getstatic 44, 3) := dk_u2 (y := 0) (z := 44) dk_g178 (by decide +kernel) rfl
theorem dJ2_putChar_b72d1_3 : decode cJ2_putChar_b72d1 3 = .ok (.ifCond .ne 25, 3) := dk_s2 (y := 0) (z := 25) dk_g154 (by decide +kernel) rfl
theorem dJ2_putChar_b72d1_6 : decode cJ2_putChar_b72d1 6 = .ok (.iload_n 1, 1) := dk_n (t := []) dk_g27 (by decide +kernel)
theorem dJ2_putChar_b72d1_7 : decode cJ2_putChar_b72d1 7 = .ok (.ifCond .lt 11, 3) := dk_s2 (y := 0) (z := 11) dk_g155 (by decide +kernel) rfl
theorem dJ2_putChar_b72d1_10 : decode cJ2_putChar_b72d1 10 = .ok (.iload_n 1, 1) := dk_n (t := []) dk_g27 (by decide +kernel)
theorem dJ2_putChar_b72d1_11 : decode cJ2_putChar_b72d1 11 = .ok (.aload_n 0, 1) := dk_n (t := []) dk_g42 (by decide +kernel)
theorem dJ2_putChar_b72d1_12 : decode cJ2_putChar_b72d1 12 = .ok (.invokestatic 48, 3) := dk_u2 (y := 0) (z := 48) dk_g184 (by decide +kernel) rfl
theorem dJ2_putChar_b72d1_15 : decode cJ2_putChar_b72d1 15 = .ok (.if_icmp .lt 13, 3) := dk_s2 (y := 0) (z := 13) dk_g161 (by decide +kernel) rfl
theorem dJ2_putChar_b72d1_18 : decode cJ2_putChar_b72d1 18 = .ok (.new 52, 3) := dk_u2 (y := 0) (z := 52) dk_g187 (by decide +kernel) rfl
theorem dJ2_putChar_b72d1_21 : decode cJ2_putChar_b72d1 21 = .ok (.dup, 1) := dk_n (t := []) dk_g89 (by decide +kernel)
theorem dJ2_putChar_b72d1_22 : decode cJ2_putChar_b72d1 22 = .ok (.ldc 54, 2) := dk_u1 (y := 54) dk_g18 (by decide +kernel)
theorem dJ2_putChar_b72d1_24 : decode cJ2_putChar_b72d1 24 = .ok (.invokespecial 56, 3) := dk_u2 (y := 0) (z := 56) dk_g183 (by decide +kernel) rfl
theorem dJ2_putChar_b72d1_27 : decode cJ2_putChar_b72d1 27 = .ok (.athrow, 1) := dk_n (t := []) dk_g191 (by decide +kernel)
theorem dJ2_putChar_b72d1_28 : decode cJ2_putChar_b72d1 28 = .ok (.iload_n 1, 1) := dk_n (t := []) dk_g27 (by decide +kernel)
theorem dJ2_putChar_b72d1_29 : decode cJ2_putChar_b72d1 29 = .ok (.iconst 1, 1) := dk_n (t := []) dk_g4 (by decide +kernel)
theorem dJ2_putChar_b72d1_30 : decode cJ2_putChar_b72d1 30 = .ok (.ishl, 1) := dk_n (t := []) dk_g120 (by decide +kernel)
theorem dJ2_putChar_b72d1_31 : decode cJ2_putChar_b72d1 31 = .ok (.istore_n 1, 1) := dk_n (t := []) dk_g60 (by decide +kernel)
theorem dJ2_putChar_b72d1_32 : decode cJ2_putChar_b72d1 32 = .ok (.aload_n 0, 1) := dk_n (t := []) dk_g42 (by decide +kernel)
theorem dJ2_putChar_b72d1_33 : decode cJ2_putChar_b72d1 33 = .ok (.iload_n 1, 1) := dk_n (t := []) dk_g27 (by decide +kernel)
theorem dJ2_putChar_b72d1_34 : decode cJ2_putChar_b72d1 34 = .ok (.iinc 1 1, 3) := dk_ii (y := 1) (z := 1) dk_g132 (by decide +kernel) rfl
theorem dJ2_putChar_b72d1_37 : decode cJ2_putChar_b72d1 37 = .ok (.iload_n 2, 1) := dk_n (t := []) dk_g28 (by decide +kernel)
theorem dJ2_putChar_b72d1_38 : decode cJ2_putChar_b72d1 38 = .ok (.getstatic 59, 3) := dk_u2 (y := 0) (z := 59) dk_g178 (by decide +kernel) rfl
theorem dJ2_putChar_b72d1_41 : decode cJ2_putChar_b72d1 41 = .ok (.ishr, 1) := dk_n (t := []) dk_g122 (by decide +kernel)
theorem dJ2_putChar_b72d1_42 : decode cJ2_putChar_b72d1 42 = .ok (.i2b, 1) := dk_n (t := []) dk_g145 (by decide +kernel)
theorem dJ2_putChar_b72d1_43 : decode cJ2_putChar_b72d1 43 = .ok (.bastore, 1) := dk_n (t := []) dk_g84 (by decide +kernel)
theorem dJ2_putChar_b72d1_44 : decode cJ2_putChar_b72d1 44 = .ok (.aload_n 0, 1) := dk_n (t := []) dk_g42 (by decide +kernel)
theorem dJ2_putChar_b72d1_45 : decode cJ2_putChar_b72d1 45 = .ok (.iload_n 1, 1) := dk_n (t := []) dk_g27 (by decide +kernel)
theorem dJ2_putChar_b72d1_46 : decode cJ2_putChar_b72d1 46 = .ok (.iload_n 2, 1) := dk_n (t := []) dk_g28 (by decide +kernel)
theorem dJ2_putChar_b72d1_47 : decode cJ2_putChar_b72d1 47 = .ok (.getstatic 63, 3) := dk_u2 (y := 0) (z := 63) dk_g178 (by decide +kernel) rfl
theorem dJ2_putChar_b72d1_50 : decode cJ2_putChar_b72d1 50 = .ok (.ishr, 1) := dk_n (t := []) dk_g122 (by decide +kernel)
theorem dJ2_putChar_b72d1_51 : decode cJ2_putChar_b72d1 51 = .ok (.i2b, 1) := dk_n (t := []) dk_g145 (by decide +kernel)
theorem dJ2_putChar_b72d1_52 : decode cJ2_putChar_b72d1 52 = .ok (.bastore, 1) := dk_n (t := []) dk_g84 (by decide +kernel)
theorem dJ2_putChar_b72d1_53 : decode cJ2_putChar_b72d1 53 = .ok (.return_, 1) := dk_n (t := []) dk_g177 (by decide +kernel)
theorem dJ2_getChar_3b067_0 : decode cJ2_getChar_3b067 0 = .ok (.getstatic 44, 3) := dk_u2 (y := 0) (z := 44) dk_g178 (by decide +kernel) rfl
theorem dJ2_getChar_3b067_3 : decode cJ2_getChar_3b067 3 = .ok (.ifCond .ne 25, 3) := dk_s2 (y := 0) (z := 25) dk_g154 (by decide +kernel) rfl
theorem dJ2_getChar_3b067_6 : decode cJ2_getChar_3b067 6 = .ok (.iload_n 1, 1) := dk_n (t := []) dk_g27 (by decide +kernel)
theorem dJ2_getChar_3b067_7 : decode cJ2_getChar_3b067 7 = .ok (.ifCond .lt 11, 3) := dk_s2 (y := 0) (z := 11) dk_g155 (by decide +kernel) rfl
theorem dJ2_getChar_3b067_10 : decode cJ2_getChar_3b067 10 = .ok (.iload_n 1, 1) := dk_n (t := []) dk_g27 (by decide +kernel)
theorem dJ2_getChar_3b067_11 : decode cJ2_getChar_3b067 11 = .ok (.aload_n 0, 1) := dk_n (t := []) dk_g42 (by decide +kernel)
theorem dJ2_getChar_3b067_12 : decode cJ2_getChar_3b067 12 = .ok (.invokestatic 48, 3) := dk_u2 (y := 0) (z := 48) dk_g184 (by decide +kernel) rfl
theorem dJ2_getChar_3b067_15 : decode cJ2_getChar_3b067 15 = .ok (.if_icmp .lt 13, 3) := dk_s2 (y := 0) (z := 13) dk_g161 (by decide +kernel) rfl
theorem dJ2_getChar_3b067_18 : decode cJ2_getChar_3b067 18 = .ok (.new 52, 3) := dk_u2 (y := 0) (z := 52) dk_g187 (by decide +kernel) rfl
theorem dJ2_getChar_3b067_21 : decode cJ2_getChar_3b067 21 = .ok (.dup, 1) := dk_n (t := []) dk_g89 (by decide +kernel)
theorem dJ2_getChar_3b067_22 : decode cJ2_getChar_3b067 22 = .ok (.ldc 54, 2) := dk_u1 (y := 54) dk_g18 (by decide +kernel)
theorem dJ2_getChar_3b067_24 : decode cJ2_getChar_3b067 24 = .ok (.invokespecial 56, 3) := dk_u2 (y := 0) (z := 56) dk_g183 (by decide +kernel) rfl
theorem dJ2_getChar_3b067_27 : decode cJ2_getChar_3b067 27 = .ok (.athrow, 1) := dk_n (t := []) dk_g191 (by decide +kernel)
theorem dJ2_getChar_3b067_28 : decode cJ2_getChar_3b067 28 = .ok (.iload_n 1, 1) := dk_n (t := []) dk_g27 (by decide +kernel)
theorem dJ2_getChar_3b067_29 : decode cJ2_getChar_3b067 29 = .ok (.iconst 1, 1) := dk_n (t := []) dk_g4 (by decide +kernel)
theorem dJ2_getChar_3b067_30 : decode cJ2_getChar_3b067 30 = .ok (.ishl, 1) := dk_n (t := []) dk_g120 (by decide +kernel)
theorem dJ2_getChar_3b067_31 : decode cJ2_getChar_3b067 31 = .ok (.istore_n 1, 1) := dk_n (t := []) dk_g60 (by decide +kernel)
theorem dJ2_getChar_3b067_32 : decode cJ2_getChar_3b067 32 = .ok (.aload_n 0, 1) := dk_n (t := []) dk_g42 (by decide +kernel)
theorem dJ2_getChar_3b067_33 : decode cJ2_getChar_3b067 33 = .ok (.iload_n 1, 1) := dk_n (t := []) dk_g27 (by decide +kernel)
theorem dJ2_getChar_3b067_34 : decode cJ2_getChar_3b067 34 = .ok (.iinc 1 1, 3) := dk_ii (y := 1) (z := 1) dk_g132 (by decide +kernel) rfl
theorem dJ2_getChar_3b067_37 : decode cJ2_getChar_3b067 37 = .ok (.baload, 1) := dk_n (t := []) dk_g51 (by decide +kernel)
theorem dJ2_getChar_3b067_38 : decode cJ2_getChar_3b067 38 = .ok (.sipush 255, 3) := dk_s2 (y := 0) (z := 255) dk_g17 (by decide +kernel) rfl
theorem dJ2_getChar_3b067_41 : decode cJ2_getChar_3b067 41 = .ok (.iand, 1) := dk_n (t := []) dk_g126 (by decide +kernel)
theorem dJ2_getChar_3b067_42 : decode cJ2_getChar_3b067 42 = .ok (.getstatic 59, 3) := dk_u2 (y := 0) (z := 59) dk_g178 (by decide +kernel) rfl
theorem dJ2_getChar_3b067_45 : decode cJ2_getChar_3b067 45 = .ok (.ishl, 1) := dk_n (t := []) dk_g120 (by decide +kernel)
theorem dJ2_getChar_3b067_46 : decode cJ2_getChar_3b067 46 = .ok (.aload_n 0, 1) := dk_n (t := []) dk_g42 (by decide +kernel)
theorem dJ2_getChar_3b067_47 : decode cJ2_getChar_3b067 47 = .ok (.iload_n 1, 1) := dk_n (t := []) dk_g27 (by decide +kernel)
theorem dJ2_getChar_3b067_48 : decode cJ2_getChar_3b067 48 = .ok (.baload, 1) := dk_n (t := []) dk_g51 (by decide +kernel)
theorem dJ2_getChar_3b067_49 : decode cJ2_getChar_3b067 49 = .ok (.sipush 255, 3) := dk_s2 (y := 0) (z := 255) dk_g17 (by decide +kernel) rfl
theorem dJ2_getChar_3b067_52 : decode cJ2_getChar_3b067 52 = .ok (.iand, 1) := dk_n (t := []) dk_g126 (by decide +kernel)
theorem dJ2_getChar_3b067_53 : decode cJ2_getChar_3b067 53 = .ok (.getstatic 63, 3) := dk_u2 (y := 0) (z := 63) dk_g178 (by decide +kernel) rfl
theorem dJ2_getChar_3b067_56 : decode cJ2_getChar_3b067 56 = .ok (.ishl, 1) := dk_n (t := []) dk_g120 (by decide +kernel)
theorem dJ2_getChar_3b067_57 : decode cJ2_getChar_3b067 57 = .ok (.ior, 1) := dk_n (t := []) dk_g128 (by decide +kernel)
theorem dJ2_getChar_3b067_58 : decode cJ2_getChar_3b067 58 = .ok (.i2c, 1) := dk_n (t := []) dk_g146 (by decide +kernel)
theorem dJ2_getChar_3b067_59 : decode cJ2_getChar_3b067 59 = .ok (.ireturn, 1) := dk_n (t := []) dk_g172 (by decide +kernel)
theorem dJ2_length_9d52b_0 : decode cJ2_length_9d52b 0 = .ok (.aload_n 0, 1) := dk_n (t := []) dk_g42 (by decide +kernel)
theorem dJ2_length_9d52b_1 : decode cJ2_length_9d52b 1 = .ok (.arraylength, 1) := dk_n (t := []) dk_g190 (by decide +kernel)
theorem dJ2_length_9d52b_2 : decode cJ2_length_9d52b 2 = .ok (.iconst 1, 1) := dk_n (t := []) dk_g4 (by decide +kernel)
theorem dJ2_length_9d52b_3 : decode cJ2_length_9d52b 3 = .ok (.ishr, 1) := dk_n (t := []) dk_g122 (by decide +kernel)
theorem dJ2_length_9d52b_4 : decode cJ2_length_9d52b 4 = .ok (.ireturn, 1) := dk_n (t := []) dk_g172 (by decide +kernel)
theorem dJ2_coderFromArrayLen_85cad_0 : decode cJ2_coderFromArrayLen_85cad 0 = .ok (.iload_n 1, 1) := dk_n (t := []) dk_g27 (by decide +kernel)
theorem dJ2_coderFromArrayLen_85cad_1 : decode cJ2_coderFromArrayLen_85cad 1 = .ok (.aload_n 0, 1) := dk_n (t := []) dk_g42 (by decide +kernel)
theorem dJ2_coderFromArrayLen_85cad_2 : decode cJ2_coderFromArrayLen_85cad 2 = .ok (.arraylength, 1) := dk_n (t := []) dk_g190 (by decide +kernel)
theorem dJ2_coderFromArrayLen_85cad_3 : decode cJ2_coderFromArrayLen_85cad 3 = .ok (.isub, 1) := dk_n (t := []) dk_g100 (by decide +kernel)
theorem dJ2_coderFromArrayLen_85cad_4 : decode cJ2_coderFromArrayLen_85cad 4 = .ok (.bipush 31, 2) := dk_s1 (y := 31) dk_g16 (by decide +kernel) rfl
theorem dJ2_coderFromArrayLen_85cad_6 : decode cJ2_coderFromArrayLen_85cad 6 = .ok (.iushr, 1) := dk_n (t := []) dk_g124 (by decide +kernel)
theorem dJ2_coderFromArrayLen_85cad_7 : decode cJ2_coderFromArrayLen_85cad 7 = .ok (.i2b, 1) := dk_n (t := []) dk_g145 (by decide +kernel)
theorem dJ2_coderFromArrayLen_85cad_8 : decode cJ2_coderFromArrayLen_85cad 8 = .ok (.ireturn, 1) := dk_n (t := []) dk_g172 (by decide +kernel)
theorem dJ2_compress_39247_0 : decode cJ2_compress_39247 0 = .ok (.iload_n 2, 1) := dk_n (t := []) dk_g28 (by decide +kernel)
theorem dJ2_compress_39247_1 : decode cJ2_compress_39247 1 = .ok (.newarray .byte, 2) := by decide +kernel
theorem dJ2_compress_39247_3 : decode cJ2_compress_39247 3 = .ok (.astore_n 3, 1) := dk_n (t := []) dk_g78 (by decide +kernel)
theorem dJ2_compress_39247_4 : decode cJ2_compress_39247 4 = .ok (.aload_n 0, 1) := dk_n (t := []) dk_g42 (by decide +kernel)
theorem dJ2_compress_39247_5 : decode cJ2_compress_39247 5 = .ok (.iload_n 1, 1) := dk_n (t := []) dk_g27 (by decide +kernel)
theorem dJ2_compress_39247_6 : decode cJ2_compress_39247 6 = .ok (.aload_n 3, 1) := dk_n (t := []) dk_g45 (by decide +kernel)
theorem dJ2_compress_39247_7 : decode cJ2_compress_39247 7 = .ok (.iconst 0, 1) := dk_n (t := []) dk_g3 (by decide +kernel)
theorem dJ2_compress_39247_8 : decode cJ2_compress_39247 8 = .ok (.iload_n 2, 1) := dk_n (t := []) dk_g28 (by decide +kernel)
theorem dJ2_compress_39247_9 : decode cJ2_compress_39247 9 = .ok (.invokestatic 123, 3) := dk_u2 (y := 0) (z := 123) dk_g184 (by decide +kernel) rfl
theorem dJ2_compress_39247_12 : decode cJ2_compress_39247 12 = .ok (.istore 4, 2) := dk_u1 (y := 4) dk_g54 (by decide +kernel)
theorem dJ2_compress_39247_14 : decode cJ2_compress_39247 14 = .ok (.iload 4, 2) := dk_u1 (y := 4) dk_g21 (by decide +kernel)
theorem dJ2_compress_39247_16 : decode cJ2_compress_39247 16 = .ok (.iload_n 2, 1) := dk_n (t := []) dk_g28 (by decide +kernel)
theorem dJ2_compress_39247_17 : decode cJ2_compress_39247 17 = .ok (.if_icmp .eq 47, 3) := dk_s2 (y := 0) (z := 47) dk_g159 (by decide +kernel) rfl
theorem dJ2_compress_39247_20 : decode cJ2_compress_39247 20 = .ok (.aload_n 0, 1) := dk_n (t := []) dk_g42 (by decide +kernel)
theorem dJ2_compress_39247_21 : decode cJ2_compress_39247 21 = .ok (.iload_n 1, 1) := dk_n (t := []) dk_g27 (by decide +kernel)
theorem dJ2_compress_39247_22 : decode cJ2_compress_39247 22 = .ok (.iconst 1, 1) := dk_n (t := []) dk_g4 (by decide +kernel)
theorem dJ2_compress_39247_23 : decode cJ2_compress_39247 23 = .ok (.ishl, 1) := dk_n (t := []) dk_g120 (by decide +kernel)
theorem dJ2_compress_39247_24 : decode cJ2_compress_39247 24 = .ok (.iload_n 1, 1) := dk_n (t := []) dk_g27 (by decide +kernel)
theorem dJ2_compress_39247_25 : decode cJ2_compress_39247 25 = .ok (.iload_n 2, 1) := dk_n (t := []) dk_g28 (by decide +kernel)
theorem dJ2_compress_39247_26 : decode cJ2_compress_39247 26 = .ok (.iadd, 1) := dk_n (t := []) dk_g96 (by decide +kernel)
theorem dJ2_compress_39247_27 : decode cJ2_compress_39247 27 = .ok (.invokestatic 11, 3) := dk_u2 (y := 0) (z := 11) dk_g184 (by decide +kernel) rfl
theorem dJ2_compress_39247_30 : decode cJ2_compress_39247 30 = .ok (.invokestatic 126, 3) := dk_u2 (y := 0) (z := 126) dk_g184 (by decide +kernel) rfl
theorem dJ2_compress_39247_33 : decode cJ2_compress_39247 33 = .ok (.astore 5, 2) := dk_u1 (y := 5) dk_g58 (by decide +kernel)
theorem dJ2_compress_39247_35 : decode cJ2_compress_39247 35 = .ok (.aload 5, 2) := dk_u1 (y := 5) dk_g25 (by decide +kernel)
theorem dJ2_compress_39247_37 : decode cJ2_compress_39247 37 = .ok (.iload 4, 2) := dk_u1 (y := 4) dk_g21 (by decide +kernel)
theorem dJ2_compress_39247_39 : decode cJ2_compress_39247 39 = .ok (.invokestatic 71, 3) := dk_u2 (y := 0) (z := 71) dk_g184 (by decide +kernel) rfl
theorem dJ2_compress_39247_42 : decode cJ2_compress_39247 42 = .ok (.sipush 255, 3) := dk_s2 (y := 0) (z := 255) dk_g17 (by decide +kernel) rfl
theorem dJ2_compress_39247_45 : decode cJ2_compress_39247 45 = .ok (.if_icmp .gt 16, 3) := dk_s2 (y := 0) (z := 16) dk_g163 (by decide +kernel) rfl
theorem dJ2_compress_39247_48 : decode cJ2_compress_39247 48 = .ok (.aload 5, 2) := dk_u1 (y := 5) dk_g25 (by decide +kernel)
theorem dJ2_compress_39247_50 : decode cJ2_compress_39247 50 = .ok (.iconst 0, 1) := dk_n (t := []) dk_g3 (by decide +kernel)
theorem dJ2_compress_39247_51 : decode cJ2_compress_39247 51 = .ok (.aload_n 3, 1) := dk_n (t := []) dk_g45 (by decide +kernel)
theorem dJ2_compress_39247_52 : decode cJ2_compress_39247 52 = .ok (.iconst 0, 1) := dk_n (t := []) dk_g3 (by decide +kernel)
theorem dJ2_compress_39247_53 : decode cJ2_compress_39247 53 = .ok (.iload_n 2, 1) := dk_n (t := []) dk_g28 (by decide +kernel)
theorem dJ2_compress_39247_54 : decode cJ2_compress_39247 54 = .ok (.invokestatic 123, 3) := dk_u2 (y := 0) (z := 123) dk_g184 (by decide +kernel) rfl
theorem dJ2_compress_39247_57 : decode cJ2_compress_39247 57 = .ok (.iload_n 2, 1) := dk_n (t := []) dk_g28 (by decide +kernel)
theorem dJ2_compress_39247_58 : decode cJ2_compress_39247 58 = .ok (.if_icmp .eq 6, 3) := dk_s2 (y := 0) (z := 6) dk_g159 (by decide +kernel) rfl
theorem dJ2_compress_39247_61 : decode cJ2_compress_39247 61 = .ok (.aload 5, 2) := dk_u1 (y := 5) dk_g25 (by decide +kernel)
theorem dJ2_compress_39247_63 : decode cJ2_compress_39247 63 = .ok (.areturn, 1) := dk_n (t := []) dk_g176 (by decide +kernel)
theorem dJ2_compress_39247_64 : decode cJ2_compress_39247 64 = .ok (.aload_n 3, 1) := dk_n (t := []) dk_g45 (by decide +kernel)
theorem dJ2_compress_39247_65 : decode cJ2_compress_39247 65 = .ok (.areturn, 1) := dk_n (t := []) dk_g176 (by decide +kernel)
theorem dJ2_compress_5af95_0 : decode cJ2_compress_5af95 0 = .ok (.iload_n 1, 1) := dk_n (t := []) dk_g27 (by decide +kernel)
theorem dJ2_compress_5af95_1 : decode cJ2_compress_5af95 1 = .ok (.iload 4, 2) := dk_u1 (y := 4) dk_g21 (by decide +kernel)
theorem dJ2_compress_5af95_3 : decode cJ2_compress_5af95 3 = .ok (.aload_n 0, 1) := dk_n (t := []) dk_g42 (by decide +kernel)
theorem dJ2_compress_5af95_4 : decode cJ2_compress_5af95 4 = .ok (.invokestatic 173, 3) := dk_u2 (y := 0) (z := 173) dk_g184 (by decide +kernel) rfl
theorem dJ2_compress_5af95_7 : decode cJ2_compress_5af95 7 = .ok (.iconst 0, 1) := dk_n (t := []) dk_g3 (by decide +kernel)
theorem dJ2_compress_5af95_8 : decode cJ2_compress_5af95 8 = .ok (.istore 5, 2) := dk_u1 (y := 5) dk_g54 (by decide +kernel)
theorem dJ2_compress_5af95_10 : decode cJ2_compress_5af95 10 = .ok (.iload 5, 2) := dk_u1 (y := 5) dk_g21 (by decide +kernel)
theorem dJ2_compress_5af95_12 : decode cJ2_compress_5af95 12 = .ok (.iload 4, 2) := dk_u1 (y := 4) dk_g21 (by decide +kernel)
theorem dJ2_compress_5af95_14 : decode cJ2_compress_5af95 14 = .ok (.if_icmp .ge 39, 3) := dk_s2 (y := 0) (z := 39) dk_g162 (by decide +kernel) rfl
theorem dJ2_compress_5af95_17 : decode cJ2_compress_5af95 17 = .ok (.aload_n 0, 1) := dk_n (t := []) dk_g42 (by decide +kernel)
theorem dJ2_compress_5af95_18 : decode cJ2_compress_5af95 18 = .ok (.iload_n 1, 1) := dk_n (t := []) dk_g27 (by decide +kernel)
theorem dJ2_compress_5af95_19 : decode cJ2_compress_5af95 19 = .ok (.invokestatic 71, 3) := dk_u2 (y := 0) (z := 71) dk_g184 (by decide +kernel) rfl
theorem dJ2_compress_5af95_22 : decode cJ2_compress_5af95 22 = .ok (.istore 6, 2) := dk_u1 (y := 6) dk_g54 (by decide +kernel)
theorem dJ2_compress_5af95_24 : decode cJ2_compress_5af95 24 = .ok (.iload 6, 2) := dk_u1 (y := 6) dk_g21 (by decide +kernel)
theorem dJ2_compress_5af95_26 : decode cJ2_compress_5af95 26 = .ok (.sipush 255, 3) := dk_s2 (y := 0) (z := 255) dk_g17 (by decide +kernel) rfl
theorem dJ2_compress_5af95_29 : decode cJ2_compress_5af95 29 = .ok (.if_icmp .le 6, 3) := dk_s2 (y := 0) (z := 6) dk_g164 (by decide +kernel) rfl
theorem dJ2_compress_5af95_32 : decode cJ2_compress_5af95 32 = .ok (.iload 5, 2) := dk_u1 (y := 5) dk_g21 (by decide +kernel)
theorem dJ2_compress_5af95_34 : decode cJ2_compress_5af95 34 = .ok (.ireturn, 1) := dk_n (t := []) dk_g172 (by decide +kernel)
theorem dJ2_compress_5af95_35 : decode cJ2_compress_5af95 35 = .ok (.aload_n 2, 1) := dk_n (t := []) dk_g44 (by decide +kernel)
theorem dJ2_compress_5af95_36 : decode cJ2_compress_5af95 36 = .ok (.iload_n 3, 1) := dk_n (t := []) dk_g29 (by decide +kernel)
theorem dJ2_compress_5af95_37 : decode cJ2_compress_5af95 37 = .ok (.iload 6, 2) := dk_u1 (y := 6) dk_g21 (by decide +kernel)
theorem dJ2_compress_5af95_39 : decode cJ2_compress_5af95 39 = .ok (.i2b, 1) := dk_n (t := []) dk_g145 (by decide +kernel)
theorem dJ2_compress_5af95_40 : decode cJ2_compress_5af95 40 = .ok (.bastore, 1) := dk_n (t := []) dk_g84 (by decide +kernel)
theorem dJ2_compress_5af95_41 : decode cJ2_compress_5af95 41 = .ok (.iinc 1 1, 3) := dk_ii (y := 1) (z := 1) dk_g132 (by decide +kernel) rfl
theorem dJ2_compress_5af95_44 : decode cJ2_compress_5af95 44 = .ok (.iinc 3 1, 3) := dk_ii (y := 3) (z := 1) dk_g132 (by decide +kernel) rfl
theorem dJ2_compress_5af95_47 : decode cJ2_compress_5af95 47 = .ok (.iinc 5 1, 3) := dk_ii (y := 5) (z := 1) dk_g132 (by decide +kernel) rfl
theorem dJ2_compress_5af95_50 : decode cJ2_compress_5af95 50 = .ok (.goto (-40), 3) := dk_s2 (y := 255) (z := 216) dk_g167 (by decide +kernel) rfl
theorem dJ2_compress_5af95_53 : decode cJ2_compress_5af95 53 = .ok (.iload 4, 2) := dk_u1 (y := 4) dk_g21 (by decide +kernel)
theorem dJ2_compress_5af95_55 : decode cJ2_compress_5af95 55 = .ok (.ireturn, 1) := dk_n (t := []) dk_g172 (by decide +kernel)
theorem dJ2_putCharSB_b72d1_0 : decode cJ2_putCharSB_b72d1 0 = .ok (.iload_n 1, 1) := dk_n (t := []) dk_g27 (by decide +kernel)
theorem dJ2_putCharSB_b72d1_1 : decode cJ2_putCharSB_b72d1 1 = .ok (.aload_n 0, 1) := dk_n (t := []) dk_g42 (by decide +kernel)
theorem dJ2_putCharSB_b72d1_2 : decode cJ2_putCharSB_b72d1 2 = .ok (.invokestatic 67, 3) := dk_u2 (y := 0) (z := 67) dk_g184 (by decide +kernel) rfl
theorem dJ2_putCharSB_b72d1_5 : decode cJ2_putCharSB_b72d1 5 = .ok (.aload_n 0, 1) := dk_n (t := []) dk_g42 (by decide +kernel)
theorem dJ2_putCharSB_b72d1_6 : decode cJ2_putCharSB_b72d1 6 = .ok (.iload_n 1, 1) := dk_n (t := []) dk_g27 (by decide +kernel)
theorem dJ2_putCharSB_b72d1_7 : decode cJ2_putCharSB_b72d1 7 = .ok (.iload_n 2, 1) := dk_n (t := []) dk_g28 (by decide +kernel)
theorem dJ2_putCharSB_b72d1_8 : decode cJ2_putCharSB_b72d1 8 = .ok (.invokestatic 111, 3) := dk_u2 (y := 0) (z := 111) dk_g184 (by decide +kernel) rfl
theorem dJ2_putCharSB_b72d1_11 : decode cJ2_putCharSB_b72d1 11 = .ok (.return_, 1) := dk_n (t := []) dk_g177 (by decide +kernel)
theorem dJ2_getChars_46870_0 : decode cJ2_getChars_46870 0 = .ok (.iload_n 1, 1) := dk_n (t := []) dk_g27 (by decide +kernel)
theorem dJ2_getChars_46870_1 : decode cJ2_getChars_46870 1 = .ok (.iload_n 2, 1) := dk_n (t := []) dk_g28 (by decide +kernel)
theorem dJ2_getChars_46870_2 : decode cJ2_getChars_46870 2 = .ok (.aload_n 3, 1) := dk_n (t := []) dk_g45 (by decide +kernel)
theorem dJ2_getChars_46870_3 : decode cJ2_getChars_46870 3 = .ok (.invokestatic 96, 3) := dk_u2 (y := 0) (z := 96) dk_g184 (by decide +kernel) rfl
theorem dJ2_getChars_46870_6 : decode cJ2_getChars_46870 6 = .ok (.iload_n 0, 1) := dk_n (t := []) dk_g26 (by decide +kernel)
theorem dJ2_getChars_46870_7 : decode cJ2_getChars_46870 7 = .ok (.iload_n 2, 1) := dk_n (t := []) dk_g28 (by decide +kernel)
theorem dJ2_getChars_46870_8 : decode cJ2_getChars_46870 8 = .ok (.aload_n 3, 1) := dk_n (t := []) dk_g45 (by decide +kernel)
theorem dJ2_getChars_46870_9 : decode cJ2_getChars_46870 9 = .ok (.invokestatic 393, 3) := dk_u2 (y := 1) (z := 137) dk_g184 (by decide +kernel) rfl
theorem dJ2_getChars_46870_12 : decode cJ2_getChars_46870 12 = .ok (.istore 4, 2) := dk_u1 (y := 4) dk_g54 (by decide +kernel)
theorem dJ2_getChars_46870_14 : decode cJ2_getChars_46870 14 = .ok (.getstatic 44, 3) := dk_u2 (y := 0) (z := 44) dk_g178 (by decide +kernel) rfl
theorem dJ2_getChars_46870_17 : decode cJ2_getChars_46870 17 = .ok (.ifCond .ne 17, 3) := dk_s2 (y := 0) (z := 17) dk_g154 (by decide +kernel) rfl
theorem dJ2_getChars_46870_20 : decode cJ2_getChars_46870 20 = .ok (.iload_n 1, 1) := dk_n (t := []) dk_g27 (by decide +kernel)
theorem dJ2_getChars_46870_21 : decode cJ2_getChars_46870 21 = .ok (.iload 4, 2) := dk_u1 (y := 4) dk_g21 (by decide +kernel)
theorem dJ2_getChars_46870_23 : decode cJ2_getChars_46870 23 = .ok (.if_icmp .eq 11, 3) := dk_s2 (y := 0) (z := 11) dk_g159 (by decide +kernel) rfl
theorem dJ2_getChars_46870_26 : decode cJ2_getChars_46870 26 = .ok (.new 52, 3) := dk_u2 (y := 0) (z := 52) dk_g187 (by decide +kernel) rfl
theorem dJ2_getChars_46870_29 : decode cJ2_getChars_46870 29 = .ok (.dup, 1) := dk_n (t := []) dk_g89 (by decide +kernel)
theorem dJ2_getChars_46870_30 : decode cJ2_getChars_46870 30 = .ok (.invokespecial 66, 3) := dk_u2 (y := 0) (z := 66) dk_g183 (by decide +kernel) rfl
theorem dJ2_getChars_46870_33 : decode cJ2_getChars_46870 33 = .ok (.athrow, 1) := dk_n (t := []) dk_g191 (by decide +kernel)
theorem dJ2_getChars_46870_34 : decode cJ2_getChars_46870 34 = .ok (.iload 4, 2) := dk_u1 (y := 4) dk_g21 (by decide +kernel)
theorem dJ2_getChars_46870_36 : decode cJ2_getChars_46870 36 = .ok (.ireturn, 1) := dk_n (t := []) dk_g172 (by decide +kernel)
theorem dJ2_putCharsAt_cd4e5_0 : decode cJ2_putCharsAt_cd4e5 0 = .ok (.iload_n 1, 1) := dk_n (t := []) dk_g27 (by decide +kernel)
theorem dJ2_putCharsAt_cd4e5_1 : decode cJ2_putCharsAt_cd4e5 1 = .ok (.iconst 4, 1) := dk_n (t := []) dk_g7 (by decide +kernel)
theorem dJ2_putCharsAt_cd4e5_2 : decode cJ2_putCharsAt_cd4e5 2 = .ok (.iadd, 1) := dk_n (t := []) dk_g96 (by decide +kernel)
theorem dJ2_putCharsAt_cd4e5_3 : decode cJ2_putCharsAt_cd4e5 3 = .ok (.istore 6, 2) := dk_u1 (y := 6) dk_g54 (by decide +kernel)
theorem dJ2_putCharsAt_cd4e5_5 : decode cJ2_putCharsAt_cd4e5 5 = .ok (.iload_n 1, 1) := dk_n (t := []) dk_g27 (by decide +kernel)
theorem dJ2_putCharsAt_cd4e5_6 : decode cJ2_putCharsAt_cd4e5 6 = .ok (.iload 6, 2) := dk_u1 (y := 6) dk_g21 (by decide +kernel)
theorem dJ2_putCharsAt_cd4e5_8 : decode cJ2_putCharsAt_cd4e5 8 = .ok (.aload_n 0, 1) := dk_n (t := []) dk_g42 (by decide +kernel)
theorem dJ2_putCharsAt_cd4e5_9 : decode cJ2_putCharsAt_cd4e5 9 = .ok (.invokestatic 96, 3) := dk_u2 (y := 0) (z := 96) dk_g184 (by decide +kernel) rfl
theorem dJ2_putCharsAt_cd4e5_12 : decode cJ2_putCharsAt_cd4e5 12 = .ok (.aload_n 0, 1) := dk_n (t := []) dk_g42 (by decide +kernel)
theorem dJ2_putCharsAt_cd4e5_13 : decode cJ2_putCharsAt_cd4e5 13 = .ok (.iload_n 1, 1) := dk_n (t := []) dk_g27 (by decide +kernel)
theorem dJ2_putCharsAt_cd4e5_14 : decode cJ2_putCharsAt_cd4e5 14 = .ok (.iinc 1 1, 3) := dk_ii (y := 1) (z := 1) dk_g132 (by decide +kernel) rfl
theorem dJ2_putCharsAt_cd4e5_17 : decode cJ2_putCharsAt_cd4e5 17 = .ok (.iload_n 2, 1) := dk_n (t := []) dk_g28 (by decide +kernel)
theorem dJ2_putCharsAt_cd4e5_18 : decode cJ2_putCharsAt_cd4e5 18 = .ok (.invokestatic 111, 3) := dk_u2 (y := 0) (z := 111) dk_g184 (by decide +kernel) rfl
theorem dJ2_putCharsAt_cd4e5_21 : decode cJ2_putCharsAt_cd4e5 21 = .ok (.aload_n 0, 1) := dk_n (t := []) dk_g42 (by decide +kernel)
theorem dJ2_putCharsAt_cd4e5_22 : decode cJ2_putCharsAt_cd4e5 22 = .ok (.iload_n 1, 1) := dk_n (t := []) dk_g27 (by decide +kernel)
theorem dJ2_putCharsAt_cd4e5_23 : decode cJ2_putCharsAt_cd4e5 23 = .ok (.iinc 1 1, 3) := dk_ii (y := 1) (z := 1) dk_g132 (by decide +kernel) rfl
theorem dJ2_putCharsAt_cd4e5_26 : decode cJ2_putCharsAt_cd4e5 26 = .ok (.iload_n 3, 1) := dk_n (t := []) dk_g29 (by decide +kernel)
theorem dJ2_putCharsAt_cd4e5_27 : decode cJ2_putCharsAt_cd4e5 27 = .ok (.invokestatic 111, 3) := dk_u2 (y := 0) (z := 111) dk_g184 (by decide +kernel) rfl
theorem dJ2_putCharsAt_cd4e5_30 : decode cJ2_putCharsAt_cd4e5 30 = .ok (.aload_n 0, 1) := dk_n (t := []) dk_g42 (by decide +kernel)
theorem dJ2_putCharsAt_cd4e5_31 : decode cJ2_putCharsAt_cd4e5 31 = .ok (.iload_n 1, 1) := dk_n (t := []) dk_g27 (by decide +kernel)
theorem dJ2_putCharsAt_cd4e5_32 : decode cJ2_putCharsAt_cd4e5 32 = .ok (.iinc 1 1, 3) := dk_ii (y := 1) (z := 1) dk_g132 (by decide +kernel) rfl
theorem dJ2_putCharsAt_cd4e5_35 : decode cJ2_putCharsAt_cd4e5 35 = .ok (.iload 4, 2) := dk_u1 (y := 4) dk_g21 (by decide +kernel)
theorem dJ2_putCharsAt_cd4e5_37 : decode cJ2_putCharsAt_cd4e5 37 = .ok (.invokestatic 111, 3) := dk_u2 (y := 0) (z := 111) dk_g184 (by decide +kernel) rfl
theorem dJ2_putCharsAt_cd4e5_40 : decode cJ2_putCharsAt_cd4e5 40 = .ok (.aload_n 0, 1) := dk_n (t := []) dk_g42 (by decide +kernel)
theorem dJ2_putCharsAt_cd4e5_41 : decode cJ2_putCharsAt_cd4e5 41 = .ok (.iload_n 1, 1) := dk_n (t := []) dk_g27 (by decide +kernel)
theorem dJ2_putCharsAt_cd4e5_42 : decode cJ2_putCharsAt_cd4e5 42 = .ok (.iinc 1 1, 3) := dk_ii (y := 1) (z := 1) dk_g132 (by decide +kernel) rfl
theorem dJ2_putCharsAt_cd4e5_45 : decode cJ2_putCharsAt_cd4e5 45 = .ok (.iload 5, 2) := dk_u1 (y := 5) dk_g21 (by decide +kernel)
theorem dJ2_putCharsAt_cd4e5_47 : decode cJ2_putCharsAt_cd4e5 47 = .ok (.invokestatic 111, 3) := dk_u2 (y := 0) (z := 111) dk_g184 (by decide +kernel) rfl
theorem dJ2_putCharsAt_cd4e5_50 : decode cJ2_putCharsAt_cd4e5 50 = .ok (.getstatic 44, 3) := dk_u2 (y := 0) (z := 44) dk_g178 (by decide +kernel) rfl
theorem dJ2_putCharsAt_cd4e5_53 : decode cJ2_putCharsAt_cd4e5 53 = .ok (.ifCond .ne 17, 3) := dk_s2 (y := 0) (z := 17) dk_g154 (by decide +kernel) rfl
theorem dJ2_putCharsAt_cd4e5_56 : decode cJ2_putCharsAt_cd4e5 56 = .ok (.iload_n 1, 1) := dk_n (t := []) dk_g27 (by decide +kernel)
theorem dJ2_putCharsAt_cd4e5_57 : decode cJ2_putCharsAt_cd4e5 57 = .ok (.iload 6, 2) := dk_u1 (y := 6) dk_g21 (by decide +kernel)
theorem dJ2_putCharsAt_cd4e5_59 : decode cJ2_putCharsAt_cd4e5 59 = .ok (.if_icmp .eq 11, 3) := dk_s2 (y := 0) (z := 11) dk_g159 (by decide +kernel) rfl
theorem dJ2_putCharsAt_cd4e5_62 : decode cJ2_putCharsAt_cd4e5 62 = .ok (.new 52, 3) := dk_u2 (y := 0) (z := 52) dk_g187 (by decide +kernel) rfl
theorem dJ2_putCharsAt_cd4e5_65 : decode cJ2_putCharsAt_cd4e5 65 = .ok (.dup, 1) := dk_n (t := []) dk_g89 (by decide +kernel)
theorem dJ2_putCharsAt_cd4e5_66 : decode cJ2_putCharsAt_cd4e5 66 = .ok (.invokespecial 66, 3) := dk_u2 (y := 0) (z := 66) dk_g183 (by decide +kernel) rfl
theorem dJ2_putCharsAt_cd4e5_69 : decode cJ2_putCharsAt_cd4e5 69 = .ok (.athrow, 1) := dk_n (t := []) dk_g191 (by decide +kernel)
theorem dJ2_putCharsAt_cd4e5_70 : decode cJ2_putCharsAt_cd4e5 70 = .ok (.iload 6, 2) := dk_u1 (y := 6) dk_g21 (by decide +kernel)
theorem dJ2_putCharsAt_cd4e5_72 : decode cJ2_putCharsAt_cd4e5 72 = .ok (.ireturn, 1) := dk_n (t := []) dk_g172 (by decide +kernel)
theorem dJ2_inflate_0e8fd_0 : decode cJ2_inflate_0e8fd 0 = .ok (.iload_n 3, 1) := dk_n (t := []) dk_g29 (by decide +kernel)
theorem dJ2_inflate_0e8fd_1 : decode cJ2_inflate_0e8fd 1 = .ok (.iload 4, 2) := dk_u1 (y := 4) dk_g21 (by decide +kernel)
theorem dJ2_inflate_0e8fd_3 : decode cJ2_inflate_0e8fd 3 = .ok (.aload_n 2, 1) := dk_n (t := []) dk_g44 (by decide +kernel)
theorem dJ2_inflate_0e8fd_4 : decode cJ2_inflate_0e8fd 4 = .ok (.invokestatic 173, 3) := dk_u2 (y := 0) (z := 173) dk_g184 (by decide +kernel) rfl
theorem dJ2_inflate_0e8fd_7 : decode cJ2_inflate_0e8fd 7 = .ok (.iconst 0, 1) := dk_n (t := []) dk_g3 (by decide +kernel)
theorem dJ2_inflate_0e8fd_8 : decode cJ2_inflate_0e8fd 8 = .ok (.istore 5, 2) := dk_u1 (y := 5) dk_g54 (by decide +kernel)
theorem dJ2_inflate_0e8fd_10 : decode cJ2_inflate_0e8fd 10 = .ok (.iload 5, 2) := dk_u1 (y := 5) dk_g21 (by decide +kernel)
theorem dJ2_inflate_0e8fd_12 : decode cJ2_inflate_0e8fd 12 = .ok (.iload 4, 2) := dk_u1 (y := 4) dk_g21 (by decide +kernel)
theorem dJ2_inflate_0e8fd_14 : decode cJ2_inflate_0e8fd 14 = .ok (.if_icmp .ge 27, 3) := dk_s2 (y := 0) (z := 27) dk_g162 (by decide +kernel) rfl
theorem dJ2_inflate_0e8fd_17 : decode cJ2_inflate_0e8fd 17 = .ok (.aload_n 2, 1) := dk_n (t := []) dk_g44 (by decide +kernel)
theorem dJ2_inflate_0e8fd_18 : decode cJ2_inflate_0e8fd 18 = .ok (.iload_n 3, 1) := dk_n (t := []) dk_g29 (by decide +kernel)
theorem dJ2_inflate_0e8fd_19 : decode cJ2_inflate_0e8fd 19 = .ok (.iinc 3 1, 3) := dk_ii (y := 3) (z := 1) dk_g132 (by decide +kernel) rfl
theorem dJ2_inflate_0e8fd_22 : decode cJ2_inflate_0e8fd 22 = .ok (.aload_n 0, 1) := dk_n (t := []) dk_g42 (by decide +kernel)
theorem dJ2_inflate_0e8fd_23 : decode cJ2_inflate_0e8fd 23 = .ok (.iload_n 1, 1) := dk_n (t := []) dk_g27 (by decide +kernel)
theorem dJ2_inflate_0e8fd_24 : decode cJ2_inflate_0e8fd 24 = .ok (.iinc 1 1, 3) := dk_ii (y := 1) (z := 1) dk_g132 (by decide +kernel) rfl
theorem dJ2_inflate_0e8fd_27 : decode cJ2_inflate_0e8fd 27 = .ok (.baload, 1) := dk_n (t := []) dk_g51 (by decide +kernel)
theorem dJ2_inflate_0e8fd_28 : decode cJ2_inflate_0e8fd 28 = .ok (.sipush 255, 3) := dk_s2 (y := 0) (z := 255) dk_g17 (by decide +kernel) rfl
theorem dJ2_inflate_0e8fd_31 : decode cJ2_inflate_0e8fd 31 = .ok (.iand, 1) := dk_n (t := []) dk_g126 (by decide +kernel)
theorem dJ2_inflate_0e8fd_32 : decode cJ2_inflate_0e8fd 32 = .ok (.invokestatic 111, 3) := dk_u2 (y := 0) (z := 111) dk_g184 (by decide +kernel) rfl
theorem dJ2_inflate_0e8fd_35 : decode cJ2_inflate_0e8fd 35 = .ok (.iinc 5 1, 3) := dk_ii (y := 5) (z := 1) dk_g132 (by decide +kernel) rfl
theorem dJ2_inflate_0e8fd_38 : decode cJ2_inflate_0e8fd 38 = .ok (.goto (-28), 3) := dk_s2 (y := 255) (z := 228) dk_g167 (by decide +kernel) rfl
theorem dJ2_inflate_0e8fd_41 : decode cJ2_inflate_0e8fd 41 = .ok (.return_, 1) := dk_n (t := []) dk_g177 (by decide +kernel)
theorem dJ2_getChars_ba4f3_0 : decode cJ2_getChars_ba4f3 0 = .ok (.iload_n 1, 1) := dk_n (t := []) dk_g27 (by decide +kernel)
theorem dJ2_getChars_ba4f3_1 : decode cJ2_getChars_ba4f3 1 = .ok (.istore 5, 2) := dk_u1 (y := 5) dk_g54 (by decide +kernel)
theorem dJ2_getChars_ba4f3_3 : decode cJ2_getChars_ba4f3 3 = .ok (.iload_n 0, 1) := dk_n (t := []) dk_g26 (by decide +kernel)
theorem dJ2_getChars_ba4f3_4 : decode cJ2_getChars_ba4f3 4 = .ok (.ifCond .ge 7, 3) := dk_s2 (y := 0) (z := 7) dk_g156 (by decide +kernel) rfl
theorem dJ2_getChars_ba4f3_7 : decode cJ2_getChars_ba4f3 7 = .ok (.iconst 1, 1) := dk_n (t := []) dk_g4 (by decide +kernel)
theorem dJ2_getChars_ba4f3_8 : decode cJ2_getChars_ba4f3 8 = .ok (.goto 4, 3) := dk_s2 (y := 0) (z := 4) dk_g167 (by decide +kernel) rfl
theorem dJ2_getChars_ba4f3_11 : decode cJ2_getChars_ba4f3 11 = .ok (.iconst 0, 1) := dk_n (t := []) dk_g3 (by decide +kernel)
theorem dJ2_getChars_ba4f3_12 : decode cJ2_getChars_ba4f3 12 = .ok (.istore 6, 2) := dk_u1 (y := 6) dk_g54 (by decide +kernel)
theorem dJ2_getChars_ba4f3_14 : decode cJ2_getChars_ba4f3 14 = .ok (.iload 6, 2) := dk_u1 (y := 6) dk_g21 (by decide +kernel)
theorem dJ2_getChars_ba4f3_16 : decode cJ2_getChars_ba4f3 16 = .ok (.ifCond .ne 6, 3) := dk_s2 (y := 0) (z := 6) dk_g154 (by decide +kernel) rfl
theorem dJ2_getChars_ba4f3_19 : decode cJ2_getChars_ba4f3 19 = .ok (.iload_n 0, 1) := dk_n (t := []) dk_g26 (by decide +kernel)
theorem dJ2_getChars_ba4f3_20 : decode cJ2_getChars_ba4f3 20 = .ok (.ineg, 1) := dk_n (t := []) dk_g116 (by decide +kernel)
theorem dJ2_getChars_ba4f3_21 : decode cJ2_getChars_ba4f3 21 = .ok (.istore_n 0, 1) := dk_n (t := []) dk_g59 (by decide +kernel)
theorem dJ2_getChars_ba4f3_22 : decode cJ2_getChars_ba4f3 22 = .ok (.iload_n 0, 1) := dk_n (t := []) dk_g26 (by decide +kernel)
theorem dJ2_getChars_ba4f3_23 : decode cJ2_getChars_ba4f3 23 = .ok (.bipush (-100), 2) := dk_s1 (y := 156) dk_g16 (by decide +kernel) rfl
theorem dJ2_getChars_ba4f3_25 : decode cJ2_getChars_ba4f3 25 = .ok (.if_icmp .gt 51, 3) := dk_s2 (y := 0) (z := 51) dk_g163 (by decide +kernel) rfl
theorem dJ2_getChars_ba4f3_28 : decode cJ2_getChars_ba4f3 28 = .ok (.iload_n 0, 1) := dk_n (t := []) dk_g26 (by decide +kernel)
theorem dJ2_getChars_ba4f3_29 : decode cJ2_getChars_ba4f3 29 = .ok (.bipush 100, 2) := dk_s1 (y := 100) dk_g16 (by decide +kernel) rfl
theorem dJ2_getChars_ba4f3_31 : decode cJ2_getChars_ba4f3 31 = .ok (.idiv, 1) := dk_n (t := []) dk_g108 (by decide +kernel)
theorem dJ2_getChars_ba4f3_32 : decode cJ2_getChars_ba4f3 32 = .ok (.istore_n 3, 1) := dk_n (t := []) dk_g62 (by decide +kernel)
theorem dJ2_getChars_ba4f3_33 : decode cJ2_getChars_ba4f3 33 = .ok (.iload_n 3, 1) := dk_n (t := []) dk_g29 (by decide +kernel)
theorem dJ2_getChars_ba4f3_34 : decode cJ2_getChars_ba4f3 34 = .ok (.bipush 100, 2) := dk_s1 (y := 100) dk_g16 (by decide +kernel) rfl
theorem dJ2_getChars_ba4f3_36 : decode cJ2_getChars_ba4f3 36 = .ok (.imul, 1) := dk_n (t := []) dk_g104 (by decide +kernel)
theorem dJ2_getChars_ba4f3_37 : decode cJ2_getChars_ba4f3 37 = .ok (.iload_n 0, 1) := dk_n (t := []) dk_g26 (by decide +kernel)
theorem dJ2_getChars_ba4f3_38 : decode cJ2_getChars_ba4f3 38 = .ok (.isub, 1) := dk_n (t := []) dk_g100 (by decide +kernel)
theorem dJ2_getChars_ba4f3_39 : decode cJ2_getChars_ba4f3 39 = .ok (.istore 4, 2) := dk_u1 (y := 4) dk_g54 (by decide +kernel)
theorem dJ2_getChars_ba4f3_41 : decode cJ2_getChars_ba4f3 41 = .ok (.iload_n 3, 1) := dk_n (t := []) dk_g29 (by decide +kernel)
theorem dJ2_getChars_ba4f3_42 : decode cJ2_getChars_ba4f3 42 = .ok (.istore_n 0, 1) := dk_n (t := []) dk_g59 (by decide +kernel)
theorem dJ2_getChars_ba4f3_43 : decode cJ2_getChars_ba4f3 43 = .ok (.aload_n 2, 1) := dk_n (t := []) dk_g44 (by decide +kernel)
theorem dJ2_getChars_ba4f3_44 : decode cJ2_getChars_ba4f3 44 = .ok (.iinc 5 (-1), 3) := dk_ii (y := 5) (z := 255) dk_g132 (by decide +kernel) rfl
theorem dJ2_getChars_ba4f3_47 : decode cJ2_getChars_ba4f3 47 = .ok (.iload 5, 2) := dk_u1 (y := 5) dk_g21 (by decide +kernel)
theorem dJ2_getChars_ba4f3_49 : decode cJ2_getChars_ba4f3 49 = .ok (.getstatic 403, 3) := dk_u2 (y := 1) (z := 147) dk_g178 (by decide +kernel) rfl
theorem dJ2_getChars_ba4f3_52 : decode cJ2_getChars_ba4f3 52 = .ok (.iload 4, 2) := dk_u1 (y := 4) dk_g21 (by decide +kernel)
theorem dJ2_getChars_ba4f3_54 : decode cJ2_getChars_ba4f3 54 = .ok (.baload, 1) := dk_n (t := []) dk_g51 (by decide +kernel)
theorem dJ2_getChars_ba4f3_55 : decode cJ2_getChars_ba4f3 55 = .ok (.invokestatic 111, 3) := dk_u2 (y := 0) (z := 111) dk_g184 (by decide +kernel) rfl
theorem dJ2_getChars_ba4f3_58 : decode cJ2_getChars_ba4f3 58 = .ok (.aload_n 2, 1) := dk_n (t := []) dk_g44 (by decide +kernel)
theorem dJ2_getChars_ba4f3_59 : decode cJ2_getChars_ba4f3 59 = .ok (.iinc 5 (-1), 3) := dk_ii (y := 5) (z := 255) dk_g132 (by decide +kernel) rfl
theorem dJ2_getChars_ba4f3_62 : decode cJ2_getChars_ba4f3 62 = .ok (.iload 5, 2) := dk_u1 (y := 5) dk_g21 (by decide +kernel)
theorem dJ2_getChars_ba4f3_64 : decode cJ2_getChars_ba4f3 64 = .ok (.getstatic 407, 3) := dk_u2 (y := 1) (z := 151) dk_g178 (by decide +kernel) rfl
theorem dJ2_getChars_ba4f3_67 : decode cJ2_getChars_ba4f3 67 = .ok (.iload 4, 2) := dk_u1 (y := 4) dk_g21 (by decide +kernel)
theorem dJ2_getChars_ba4f3_69 : decode cJ2_getChars_ba4f3 69 = .ok (.baload, 1) := dk_n (t := []) dk_g51 (by decide +kernel)
theorem dJ2_getChars_ba4f3_70 : decode cJ2_getChars_ba4f3 70 = .ok (.invokestatic 111, 3) := dk_u2 (y := 0) (z := 111) dk_g184 (by decide +kernel) rfl
theorem dJ2_getChars_ba4f3_73 : decode cJ2_getChars_ba4f3 73 = .ok (.goto (-51), 3) := dk_s2 (y := 255) (z := 205) dk_g167 (by decide +kernel) rfl
theorem dJ2_getChars_ba4f3_76 : decode cJ2_getChars_ba4f3 76 = .ok (.aload_n 2, 1) := dk_n (t := []) dk_g44 (by decide +kernel)
theorem dJ2_getChars_ba4f3_77 : decode cJ2_getChars_ba4f3 77 = .ok (.iinc 5 (-1), 3) := dk_ii (y := 5) (z := 255) dk_g132 (by decide +kernel) rfl
theorem dJ2_getChars_ba4f3_80 : decode cJ2_getChars_ba4f3 80 = .ok (.iload 5, 2) := dk_u1 (y := 5) dk_g21 (by decide +kernel)
theorem dJ2_getChars_ba4f3_82 : decode cJ2_getChars_ba4f3 82 = .ok (.getstatic 403, 3) := dk_u2 (y := 1) (z := 147) dk_g178 (by decide +kernel) rfl
theorem dJ2_getChars_ba4f3_85 : decode cJ2_getChars_ba4f3 85 = .ok (.iload_n 0, 1) := dk_n (t := []) dk_g26 (by decide +kernel)
theorem dJ2_getChars_ba4f3_86 : decode cJ2_getChars_ba4f3 86 = .ok (.ineg, 1) := dk_n (t := []) dk_g116 (by decide +kernel)
theorem dJ2_getChars_ba4f3_87 : decode cJ2_getChars_ba4f3 87 = .ok (.baload, 1) := dk_n (t := []) dk_g51 (by decide +kernel)
theorem dJ2_getChars_ba4f3_88 : decode cJ2_getChars_ba4f3 88 = .ok (.invokestatic 111, 3) := dk_u2 (y := 0) (z := 111) dk_g184 (by decide +kernel) rfl
theorem dJ2_getChars_ba4f3_91 : decode cJ2_getChars_ba4f3 91 = .ok (.iload_n 0, 1) := dk_n (t := []) dk_g26 (by decide +kernel)
theorem dJ2_getChars_ba4f3_92 : decode cJ2_getChars_ba4f3 92 = .ok (.bipush (-9), 2) := dk_s1 (y := 247) dk_g16 (by decide +kernel) rfl
theorem dJ2_getChars_ba4f3_94 : decode cJ2_getChars_ba4f3 94 = .ok (.if_icmp .ge 18, 3) := dk_s2 (y := 0) (z := 18) dk_g162 (by decide +kernel) rfl
theorem dJ2_getChars_ba4f3_97 : decode cJ2_getChars_ba4f3 97 = .ok (.aload_n 2, 1) := dk_n (t := []) dk_g44 (by decide +kernel)
theorem dJ2_getChars_ba4f3_98 : decode cJ2_getChars_ba4f3 98 = .ok (.iinc 5 (-1), 3) := dk_ii (y := 5) (z := 255) dk_g132 (by decide +kernel) rfl
theorem dJ2_getChars_ba4f3_101 : decode cJ2_getChars_ba4f3 101 = .ok (.iload 5, 2) := dk_u1 (y := 5) dk_g21 (by decide +kernel)
theorem dJ2_getChars_ba4f3_103 : decode cJ2_getChars_ba4f3 103 = .ok (.getstatic 407, 3) := dk_u2 (y := 1) (z := 151) dk_g178 (by decide +kernel) rfl
theorem dJ2_getChars_ba4f3_106 : decode cJ2_getChars_ba4f3 106 = .ok (.iload_n 0, 1) := dk_n (t := []) dk_g26 (by decide +kernel)
theorem dJ2_getChars_ba4f3_107 : decode cJ2_getChars_ba4f3 107 = .ok (.ineg, 1) := dk_n (t := []) dk_g116 (by decide +kernel)
theorem dJ2_getChars_ba4f3_108 : decode cJ2_getChars_ba4f3 108 = .ok (.baload, 1) := dk_n (t := []) dk_g51 (by decide +kernel)
theorem dJ2_getChars_ba4f3_109 : decode cJ2_getChars_ba4f3 109 = .ok (.invokestatic 111, 3) := dk_u2 (y := 0) (z := 111) dk_g184 (by decide +kernel) rfl
theorem dJ2_getChars_ba4f3_112 : decode cJ2_getChars_ba4f3 112 = .ok (.iload 6, 2) := dk_u1 (y := 6) dk_g21 (by decide +kernel)
theorem dJ2_getChars_ba4f3_114 : decode cJ2_getChars_ba4f3 114 = .ok (.ifCond .eq 14, 3) := dk_s2 (y := 0) (z := 14) dk_g153 (by decide +kernel) rfl
theorem dJ2_getChars_ba4f3_117 : decode cJ2_getChars_ba4f3 117 = .ok (.aload_n 2, 1) := dk_n (t := []) dk_g44 (by decide +kernel)
theorem dJ2_getChars_ba4f3_118 : decode cJ2_getChars_ba4f3 118 = .ok (.iinc 5 (-1), 3) := dk_ii (y := 5) (z := 255) dk_g132 (by decide +kernel) rfl
theorem dJ2_getChars_ba4f3_121 : decode cJ2_getChars_ba4f3 121 = .ok (.iload 5, 2) := dk_u1 (y := 5) dk_g21 (by decide +kernel)
theorem dJ2_getChars_ba4f3_123 : decode cJ2_getChars_ba4f3 123 = .ok (.bipush 45, 2) := dk_s1 (y := 45) dk_g16 (by decide +kernel) rfl
theorem dJ2_getChars_ba4f3_125 : decode cJ2_getChars_ba4f3 125 = .ok (.invokestatic 111, 3) := dk_u2 (y := 0) (z := 111) dk_g184 (by decide +kernel) rfl
theorem dJ2_getChars_ba4f3_128 : decode cJ2_getChars_ba4f3 128 = .ok (.iload 5, 2) := dk_u1 (y := 5) dk_g21 (by decide +kernel)
theorem dJ2_getChars_ba4f3_130 : decode cJ2_getChars_ba4f3 130 = .ok (.ireturn, 1) := dk_n (t := []) dk_g172 (by decide +kernel)
theorem dJ2_checkIndex_2214a_0 : decode cJ2_checkIndex_2214a 0 = .ok (.iload_n 0, 1) := dk_n (t := []) dk_g26 (by decide +kernel)
theorem dJ2_checkIndex_2214a_1 : decode cJ2_checkIndex_2214a 1 = .ok (.aload_n 1, 1) := dk_n (t := []) dk_g43 (by decide +kernel)
theorem dJ2_checkIndex_2214a_2 : decode cJ2_checkIndex_2214a 2 = .ok (.invokestatic 48, 3) := dk_u2 (y := 0) (z := 48) dk_g184 (by decide +kernel) rfl
theorem dJ2_checkIndex_2214a_5 : decode cJ2_checkIndex_2214a 5 = .ok (.invokestatic 414, 3) := dk_u2 (y := 1) (z := 158) dk_g184 (by decide +kernel) rfl
theorem dJ2_checkIndex_2214a_8 : decode cJ2_checkIndex_2214a 8 = .ok (.return_, 1) := dk_n (t := []) dk_g177 (by decide +kernel)
theorem dJ2_checkBoundsBeginEnd_d044e_0 : decode cJ2_checkBoundsBeginEnd_d044e 0 = .ok (.iload_n 0, 1) := dk_n (t := []) dk_g26 (by decide +kernel)
theorem dJ2_checkBoundsBeginEnd_d044e_1 : decode cJ2_checkBoundsBeginEnd_d044e 1 = .ok (.iload_n 1, 1) := dk_n (t := []) dk_g27 (by decide +kernel)
theorem dJ2_checkBoundsBeginEnd_d044e_2 : decode cJ2_checkBoundsBeginEnd_d044e 2 = .ok (.aload_n 2, 1) := dk_n (t := []) dk_g44 (by decide +kernel)
theorem dJ2_checkBoundsBeginEnd_d044e_3 : decode cJ2_checkBoundsBeginEnd_d044e 3 = .ok (.invokestatic 48, 3) := dk_u2 (y := 0) (z := 48) dk_g184 (by decide +kernel) rfl
theorem dJ2_checkBoundsBeginEnd_d044e_6 : decode cJ2_checkBoundsBeginEnd_d044e 6 = .ok (.invokestatic 241, 3) := dk_u2 (y := 0) (z := 241) dk_g184 (by decide +kernel) rfl
theorem dJ2_checkBoundsBeginEnd_d044e_9 : decode cJ2_checkBoundsBeginEnd_d044e 9 = .ok (.return_, 1) := dk_n (t := []) dk_g177 (by decide +kernel)
theorem dJ2_checkBoundsOffCount_d044e_0 : decode cJ2_checkBoundsOffCount_d044e 0 = .ok (.iload_n 0, 1) := dk_n (t := []) dk_g26 (by decide +kernel)
theorem dJ2_checkBoundsOffCount_d044e_1 : decode cJ2_checkBoundsOffCount_d044e 1 = .ok (.iload_n 1, 1) := dk_n (t := []) dk_g27 (by decide +kernel)
theorem dJ2_checkBoundsOffCount_d044e_2 : decode cJ2_checkBoundsOffCount_d044e 2 = .ok (.aload_n 2, 1) := dk_n (t := []) dk_g44 (by decide +kernel)
theorem dJ2_checkBoundsOffCount_d044e_3 : decode cJ2_checkBoundsOffCount_d044e 3 = .ok (.invokestatic 48, 3) := dk_u2 (y := 0) (z := 48) dk_g184 (by decide +kernel) rfl
theorem dJ2_checkBoundsOffCount_d044e_6 : decode cJ2_checkBoundsOffCount_d044e 6 = .ok (.invokestatic 419, 3) := dk_u2 (y := 1) (z := 163) dk_g184 (by decide +kernel) rfl
theorem dJ2_checkBoundsOffCount_d044e_9 : decode cJ2_checkBoundsOffCount_d044e 9 = .ok (.pop, 1) := dk_n (t := []) dk_g87 (by decide +kernel)
theorem dJ2_checkBoundsOffCount_d044e_10 : decode cJ2_checkBoundsOffCount_d044e 10 = .ok (.return_, 1) := dk_n (t := []) dk_g177 (by decide +kernel)
theorem dJxa1e45_init_da8c8_0 : decode cJxa1e45_init_da8c8 0 = .ok (.aload_n 0, 1) := dk_n (t := []) dk_g42 (by decide +kernel)
theorem dJxa1e45_init_da8c8_1 : decode cJxa1e45_init_da8c8 1 = .ok (.invokespecial 1, 3) := dk_u2 (y := 0) (z := 1) dk_g183 (by decide +kernel) rfl
theorem dJxa1e45_init_da8c8_4 : decode cJxa1e45_init_da8c8 4 = .ok (.return_, 1) := dk_n (t := []) dk_g177 (by decide +kernel)
theorem dJxc12de_init_da8c8_0 : decode cJxc12de_init_da8c8 0 = .ok (.aload_n 0, 1) := dk_n (t := []) dk_g42 (by decide +kernel)
theorem dJxc12de_init_da8c8_1 : decode cJxc12de_init_da8c8 1 = .ok (.invokespecial 1, 3) := dk_u2 (y := 0) (z := 1) dk_g183 (by decide +kernel) rfl
theorem dJxc12de_init_da8c8_4 : decode cJxc12de_init_da8c8 4 = .ok (.aload_n 0, 1) := dk_n (t := []) dk_g42 (by decide +kernel)
theorem dJxc12de_init_da8c8_5 : decode cJxc12de_init_da8c8 5 = .ok (.iconst 0, 1) := dk_n (t := []) dk_g3 (by decide +kernel)
theorem dJxc12de_init_da8c8_6 : decode cJxc12de_init_da8c8 6 = .ok (.putfield 7, 3) := dk_u2 (y := 0) (z := 7) dk_g181 (by decide +kernel) rfl
theorem dJxc12de_init_da8c8_9 : decode cJxc12de_init_da8c8 9 = .ok (.return_, 1) := dk_n (t := []) dk_g177 (by decide +kernel)
theorem dJx35411_init_45d68_0 : decode cJx35411_init_45d68 0 = .ok (.aload_n 0, 1) := dk_n (t := []) dk_g42 (by decide +kernel)
theorem dJx35411_init_45d68_1 : decode cJx35411_init_45d68 1 = .ok (.aload_n 1, 1) := dk_n (t := []) dk_g43 (by decide +kernel)
theorem dJx35411_init_45d68_2 : decode cJx35411_init_45d68 2 = .ok (.putfield 1, 3) := dk_u2 (y := 0) (z := 1) dk_g181 (by decide +kernel) rfl
theorem dJx35411_init_45d68_5 : decode cJx35411_init_45d68 5 = .ok (.aload_n 0, 1) := dk_n (t := []) dk_g42 (by decide +kernel)
theorem dJx35411_init_45d68_6 : decode cJx35411_init_45d68 6 = .ok (.invokespecial 7, 3) := dk_u2 (y := 0) (z := 7) dk_g183 (by decide +kernel) rfl
theorem dJx35411_init_45d68_9 : decode cJx35411_init_45d68 9 = .ok (.aload_n 0, 1) := dk_n (t := []) dk_g42 (by decide +kernel)
theorem dJx35411_init_45d68_10 : decode cJx35411_init_45d68 10 = .ok (.iconst (-1), 1) := dk_n (t := []) dk_g2 (by decide +kernel)
theorem dJx35411_init_45d68_11 : decode cJx35411_init_45d68 11 = .ok (.putfield 13, 3) := dk_u2 (y := 0) (z := 13) dk_g181 (by decide +kernel) rfl
theorem dJx35411_init_45d68_14 : decode cJx35411_init_45d68 14 = .ok (.aload_n 0, 1) := dk_n (t := []) dk_g42 (by decide +kernel)
theorem dJx35411_init_45d68_15 : decode cJx35411_init_45d68 15 = .ok (.aload_n 0, 1) := dk_n (t := []) dk_g42 (by decide +kernel)
theorem dJx35411_init_45d68_16 : decode cJx35411_init_45d68 16 = .ok (.getfield 1, 3) := dk_u2 (y := 0) (z := 1) dk_g180 (by decide +kernel) rfl
theorem dJx35411_init_45d68_19 : decode cJx35411_init_45d68 19 = .ok (.getfield 17, 3) := dk_u2 (y := 0) (z := 17) dk_g180 (by decide +kernel) rfl
theorem dJx35411_init_45d68_22 : decode cJx35411_init_45d68 22 = .ok (.putfield 22, 3) := dk_u2 (y := 0) (z := 22) dk_g181 (by decide +kernel) rfl
theorem dJx35411_init_45d68_25 : decode cJx35411_init_45d68 25 = .ok (.return_, 1) := dk_n (t := []) dk_g177 (by decide +kernel)
theorem dJx35411_hasNext_aae02_0 : decode cJx35411_hasNext_aae02 0 = .ok (.aload_n 0, 1) := dk_n (t := []) dk_g42 (by decide +kernel)
theorem dJx35411_hasNext_aae02_1 : decode cJx35411_hasNext_aae02 1 = .ok (.getfield 25, 3) := dk_u2 (y := 0) (z := 25) dk_g180 (by decide +kernel) rfl
theorem dJx35411_hasNext_aae02_4 : decode cJx35411_hasNext_aae02 4 = .ok (.aload_n 0, 1) := dk_n (t := []) dk_g42 (by decide +kernel)
theorem dJx35411_hasNext_aae02_5 : decode cJx35411_hasNext_aae02 5 = .ok (.getfield 1, 3) := dk_u2 (y := 0) (z := 1) dk_g180 (by decide +kernel) rfl
theorem dJx35411_hasNext_aae02_8 : decode cJx35411_hasNext_aae02 8 = .ok (.getfield 28, 3) := dk_u2 (y := 0) (z := 28) dk_g180 (by decide +kernel) rfl
theorem dJx35411_hasNext_aae02_11 : decode cJx35411_hasNext_aae02 11 = .ok (.if_icmp .eq 7, 3) := dk_s2 (y := 0) (z := 7) dk_g159 (by decide +kernel) rfl
theorem dJx35411_hasNext_aae02_14 : decode cJx35411_hasNext_aae02 14 = .ok (.iconst 1, 1) := dk_n (t := []) dk_g4 (by decide +kernel)
theorem dJx35411_hasNext_aae02_15 : decode cJx35411_hasNext_aae02 15 = .ok (.goto 4, 3) := dk_s2 (y := 0) (z := 4) dk_g167 (by decide +kernel) rfl
theorem dJx35411_hasNext_aae02_18 : decode cJx35411_hasNext_aae02 18 = .ok (.iconst 0, 1) := dk_n (t := []) dk_g3 (by decide +kernel)
theorem dJx35411_hasNext_aae02_19 : decode cJx35411_hasNext_aae02 19 = .ok (.ireturn, 1) := dk_n (t := []) dk_g172 (by decide +kernel)
theorem dJx35411_next_0502b_0 : decode cJx35411_next_0502b 0 = .ok (.aload_n 0, 1) := dk_n (t := []) dk_g42 (by decide +kernel)
theorem dJx35411_next_0502b_1 : decode cJx35411_next_0502b 1 = .ok (.invokevirtual 31, 3) := dk_u2 (y := 0) (z := 31) dk_g182 (by decide +kernel) rfl
theorem dJx35411_next_0502b_4 : decode cJx35411_next_0502b 4 = .ok (.aload_n 0, 1) := dk_n (t := []) dk_g42 (by decide +kernel)
theorem dJx35411_next_0502b_5 : decode cJx35411_next_0502b 5 = .ok (.getfield 25, 3) := dk_u2 (y := 0) (z := 25) dk_g180 (by decide +kernel) rfl
theorem dJx35411_next_0502b_8 : decode cJx35411_next_0502b 8 = .ok (.istore_n 1, 1) := dk_n (t := []) dk_g60 (by decide +kernel)
theorem dJx35411_next_0502b_9 : decode cJx35411_next_0502b 9 = .ok (.iload_n 1, 1) := dk_n (t := []) dk_g27 (by decide +kernel)
theorem dJx35411_next_0502b_10 : decode cJx35411_next_0502b 10 = .ok (.aload_n 0, 1) := dk_n (t := []) dk_g42 (by decide +kernel)
theorem dJx35411_next_0502b_11 : decode cJx35411_next_0502b 11 = .ok (.getfield 1, 3) := dk_u2 (y := 0) (z := 1) dk_g180 (by decide +kernel) rfl
theorem dJx35411_next_0502b_14 : decode cJx35411_next_0502b 14 = .ok (.getfield 28, 3) := dk_u2 (y := 0) (z := 28) dk_g180 (by decide +kernel) rfl
theorem dJx35411_next_0502b_17 : decode cJx35411_next_0502b 17 = .ok (.if_icmp .lt 11, 3) := dk_s2 (y := 0) (z := 11) dk_g161 (by decide +kernel) rfl
theorem dJx35411_next_0502b_20 : decode cJx35411_next_0502b 20 = .ok (.new 34, 3) := dk_u2 (y := 0) (z := 34) dk_g187 (by decide +kernel) rfl
theorem dJx35411_next_0502b_23 : decode cJx35411_next_0502b 23 = .ok (.dup, 1) := dk_n (t := []) dk_g89 (by decide +kernel)
theorem dJx35411_next_0502b_24 : decode cJx35411_next_0502b 24 = .ok (.invokespecial 36, 3) := dk_u2 (y := 0) (z := 36) dk_g183 (by decide +kernel) rfl
theorem dJx35411_next_0502b_27 : decode cJx35411_next_0502b 27 = .ok (.athrow, 1) := dk_n (t := []) dk_g191 (by decide +kernel)
theorem dJx35411_next_0502b_28 : decode cJx35411_next_0502b 28 = .ok (.aload_n 0, 1) := dk_n (t := []) dk_g42 (by decide +kernel)
theorem dJx35411_next_0502b_29 : decode cJx35411_next_0502b 29 = .ok (.getfield 1, 3) := dk_u2 (y := 0) (z := 1) dk_g180 (by decide +kernel) rfl
theorem dJx35411_next_0502b_32 : decode cJx35411_next_0502b 32 = .ok (.getfield 37, 3) := dk_u2 (y := 0) (z := 37) dk_g180 (by decide +kernel) rfl
theorem dJx35411_next_0502b_35 : decode cJx35411_next_0502b 35 = .ok (.astore_n 2, 1) := dk_n (t := []) dk_g77 (by decide +kernel)
theorem dJx35411_next_0502b_36 : decode cJx35411_next_0502b 36 = .ok (.iload_n 1, 1) := dk_n (t := []) dk_g27 (by decide +kernel)
theorem dJx35411_next_0502b_37 : decode cJx35411_next_0502b 37 = .ok (.aload_n 2, 1) := dk_n (t := []) dk_g44 (by decide +kernel)
theorem dJx35411_next_0502b_38 : decode cJx35411_next_0502b 38 = .ok (.arraylength, 1) := dk_n (t := []) dk_g190 (by decide +kernel)
theorem dJx35411_next_0502b_39 : decode cJx35411_next_0502b 39 = .ok (.if_icmp .lt 11, 3) := dk_s2 (y := 0) (z := 11) dk_g161 (by decide +kernel) rfl
theorem dJx35411_next_0502b_42 : decode cJx35411_next_0502b 42 = .ok (.new 41, 3) := dk_u2 (y := 0) (z := 41) dk_g187 (by decide +kernel) rfl
theorem dJx35411_next_0502b_45 : decode cJx35411_next_0502b 45 = .ok (.dup, 1) := dk_n (t := []) dk_g89 (by decide +kernel)
theorem dJx35411_next_0502b_46 : decode cJx35411_next_0502b 46 = .ok (.invokespecial 43, 3) := dk_u2 (y := 0) (z := 43) dk_g183 (by decide +kernel) rfl
theorem dJx35411_next_0502b_49 : decode cJx35411_next_0502b 49 = .ok (.athrow, 1) := dk_n (t := []) dk_g191 (by decide +kernel)
theorem dJx35411_next_0502b_50 : decode cJx35411_next_0502b 50 = .ok (.aload_n 0, 1) := dk_n (t := []) dk_g42 (by decide +kernel)
theorem dJx35411_next_0502b_51 : decode cJx35411_next_0502b 51 = .ok (.iload_n 1, 1) := dk_n (t := []) dk_g27 (by decide +kernel)
theorem dJx35411_next_0502b_52 : decode cJx35411_next_0502b 52 = .ok (.iconst 1, 1) := dk_n (t := []) dk_g4 (by decide +kernel)
theorem dJx35411_next_0502b_53 : decode cJx35411_next_0502b 53 = .ok (.iadd, 1) := dk_n (t := []) dk_g96 (by decide +kernel)
theorem dJx35411_next_0502b_54 : decode cJx35411_next_0502b 54 = .ok (.putfield 25, 3) := dk_u2 (y := 0) (z := 25) dk_g181 (by decide +kernel) rfl
theorem dJx35411_next_0502b_57 : decode cJx35411_next_0502b 57 = .ok (.aload_n 2, 1) := dk_n (t := []) dk_g44 (by decide +kernel)
theorem dJx35411_next_0502b_58 : decode cJx35411_next_0502b 58 = .ok (.aload_n 0, 1) := dk_n (t := []) dk_g42 (by decide +kernel)
theorem dJx35411_next_0502b_59 : decode cJx35411_next_0502b 59 = .ok (.iload_n 1, 1) := dk_n (t := []) dk_g27 (by decide +kernel)
theorem dJx35411_next_0502b_60 : decode cJx35411_next_0502b 60 = .ok (.dup_x1, 1) := dk_n (t := []) dk_g90 (by decide +kernel)
theorem dJx35411_next_0502b_61 : decode cJx35411_next_0502b 61 = .ok (.putfield 13, 3) := dk_u2 (y := 0) (z := 13) dk_g181 (by decide +kernel) rfl
theorem dJx35411_next_0502b_64 : decode cJx35411_next_0502b 64 = .ok (.aaload, 1) := dk_n (t := []) dk_g50 (by decide +kernel)
theorem dJx35411_next_0502b_65 : decode cJx35411_next_0502b 65 = .ok (.areturn, 1) := dk_n (t := []) dk_g176 (by decide +kernel)
theorem dJx35411_checkForComodification_da8c8_0 : decode cJx35411_checkForComodification_da8c8 0 = .ok (.aload_n 0, 1) := dk_n (t := []) dk_g42 (by decide +kernel)
theorem dJx35411_checkForComodification_da8c8_1 : decode cJx35411_checkForComodification_da8c8 1 = .ok (.getfield 1, 3) := dk_u2 (y := 0) (z := 1) dk_g180 (by decide +kernel) rfl
theorem dJx35411_checkForComodification_da8c8_4 : decode cJx35411_checkForComodification_da8c8 4 = .ok (.getfield 17, 3) := dk_u2 (y := 0) (z := 17) dk_g180 (by decide +kernel) rfl
theorem dJx35411_checkForComodification_da8c8_7 : decode cJx35411_checkForComodification_da8c8 7 = .ok (.aload_n 0, 1) := dk_n (t := []) dk_g42 (by decide +kernel)
theorem dJx35411_checkForComodification_da8c8_8 : decode cJx35411_checkForComodification_da8c8 8 = .ok (.getfield 22, 3) := dk_u2 (y := 0) (z := 22) dk_g180 (by decide +kernel) rfl
theorem dJx35411_checkForComodification_da8c8_11 : decode cJx35411_checkForComodification_da8c8 11 = .ok (.if_icmp .eq 11, 3) := dk_s2 (y := 0) (z := 11) dk_g159 (by decide +kernel) rfl
theorem dJx35411_checkForComodification_da8c8_14 : decode cJx35411_checkForComodification_da8c8 14 = .ok (.new 41, 3) := dk_u2 (y := 0) (z := 41) dk_g187 (by decide +kernel) rfl
theorem dJx35411_checkForComodification_da8c8_17 : decode cJx35411_checkForComodification_da8c8 17 = .ok (.dup, 1) := dk_n (t := []) dk_g89 (by decide +kernel)
theorem dJx35411_checkForComodification_da8c8_18 : decode cJx35411_checkForComodification_da8c8 18 = .ok (.invokespecial 43, 3) := dk_u2 (y := 0) (z := 43) dk_g183 (by decide +kernel) rfl
theorem dJx35411_checkForComodification_da8c8_21 : decode cJx35411_checkForComodification_da8c8 21 = .ok (.athrow, 1) := dk_n (t := []) dk_g191 (by decide +kernel)
theorem dJx35411_checkForComodification_da8c8_22 : decode cJx35411_checkForComodification_da8c8 22 = .ok (.return_, 1) := dk_n (t := []) dk_g177 (by decide +kernel)
theorem dJx4a65c_init_da8c8_0 : decode cJx4a65c_init_da8c8 0 = .ok (.aload_n 0, 1) := dk_n (t := []) dk_g42 (by decide +kernel)
theorem dJx4a65c_init_da8c8_1 : decode cJx4a65c_init_da8c8 1 = .ok (.invokespecial 1, 3) := dk_u2 (y := 0) (z := 1) dk_g183 (by decide +kernel) rfl
theorem dJx4a65c_init_da8c8_4 : decode cJx4a65c_init_da8c8 4 = .ok (.aload_n 0, 1) := dk_n (t := []) dk_g42 (by decide +kernel)
theorem dJx4a65c_init_da8c8_5 : decode cJx4a65c_init_da8c8 5 = .ok (.getstatic 39, 3) := dk_u2 (y := 0) (z := 39) dk_g178 (by decide +kernel) rfl
theorem dJx4a65c_init_da8c8_8 : decode cJx4a65c_init_da8c8 8 = .ok (.putfield 9, 3) := dk_u2 (y := 0) (z := 9) dk_g181 (by decide +kernel) rfl
theorem dJx4a65c_init_da8c8_11 : decode cJx4a65c_init_da8c8 11 = .ok (.return_, 1) := dk_n (t := []) dk_g177 (by decide +kernel)
theorem dJx4a65c_grow_92f84_0 : decode cJx4a65c_grow_92f84 0 = .ok (.aload_n 0, 1) := dk_n (t := []) dk_g42 (by decide +kernel)
theorem dJx4a65c_grow_92f84_1 : decode cJx4a65c_grow_92f84 1 = .ok (.getfield 9, 3) := dk_u2 (y := 0) (z := 9) dk_g180 (by decide +kernel) rfl
theorem dJx4a65c_grow_92f84_4 : decode cJx4a65c_grow_92f84 4 = .ok (.arraylength, 1) := dk_n (t := []) dk_g190 (by decide +kernel)
theorem dJx4a65c_grow_92f84_5 : decode cJx4a65c_grow_92f84 5 = .ok (.istore_n 2, 1) := dk_n (t := []) dk_g61 (by decide +kernel)
theorem dJx4a65c_grow_92f84_6 : decode cJx4a65c_grow_92f84 6 = .ok (.iload_n 2, 1) := dk_n (t := []) dk_g28 (by decide +kernel)
theorem dJx4a65c_grow_92f84_7 : decode cJx4a65c_grow_92f84 7 = .ok (.ifCond .gt 13, 3) := dk_s2 (y := 0) (z := 13) dk_g157 (by decide +kernel) rfl
theorem dJx4a65c_grow_92f84_10 : decode cJx4a65c_grow_92f84 10 = .ok (.aload_n 0, 1) := dk_n (t := []) dk_g42 (by decide +kernel)
theorem dJx4a65c_grow_92f84_11 : decode cJx4a65c_grow_92f84 11 = .ok (.getfield 9, 3) := dk_u2 (y := 0) (z := 9) dk_g180 (by decide +kernel) rfl
theorem dJx4a65c_grow_92f84_14 : decode cJx4a65c_grow_92f84 14 = .ok (.getstatic 39, 3) := dk_u2 (y := 0) (z := 39) dk_g178 (by decide +kernel) rfl
theorem dJx4a65c_grow_92f84_17 : decode cJx4a65c_grow_92f84 17 = .ok (.if_acmp .eq 28, 3) := dk_s2 (y := 0) (z := 28) dk_g165 (by decide +kernel) rfl
theorem dJx4a65c_grow_92f84_20 : decode cJx4a65c_grow_92f84 20 = .ok (.iload_n 2, 1) := dk_n (t := []) dk_g28 (by decide +kernel)
theorem dJx4a65c_grow_92f84_21 : decode cJx4a65c_grow_92f84 21 = .ok (.iload_n 1, 1) := dk_n (t := []) dk_g27 (by decide +kernel)
theorem dJx4a65c_grow_92f84_22 : decode cJx4a65c_grow_92f84 22 = .ok (.iload_n 2, 1) := dk_n (t := []) dk_g28 (by decide +kernel)
theorem dJx4a65c_grow_92f84_23 : decode cJx4a65c_grow_92f84 23 = .ok (.isub, 1) := dk_n (t := []) dk_g100 (by decide +kernel)
theorem dJx4a65c_grow_92f84_24 : decode cJx4a65c_grow_92f84 24 = .ok (.iload_n 2, 1) := dk_n (t := []) dk_g28 (by decide +kernel)
theorem dJx4a65c_grow_92f84_25 : decode cJx4a65c_grow_92f84 25 = .ok (.iconst 1, 1) := dk_n (t := []) dk_g4 (by decide +kernel)
theorem dJx4a65c_grow_92f84_26 : decode cJx4a65c_grow_92f84 26 = .ok (.ishr, 1) := dk_n (t := []) dk_g122 (by decide +kernel)
theorem dJx4a65c_grow_92f84_27 : decode cJx4a65c_grow_92f84 27 = .ok (.invokestatic 73, 3) := dk_u2 (y := 0) (z := 73) dk_g184 (by decide +kernel) rfl
theorem dJx4a65c_grow_92f84_30 : decode cJx4a65c_grow_92f84 30 = .ok (.istore_n 3, 1) := dk_n (t := []) dk_g62 (by decide +kernel)
theorem dJx4a65c_grow_92f84_31 : decode cJx4a65c_grow_92f84 31 = .ok (.aload_n 0, 1) := dk_n (t := []) dk_g42 (by decide +kernel)
theorem dJx4a65c_grow_92f84_32 : decode cJx4a65c_grow_92f84 32 = .ok (.aload_n 0, 1) := dk_n (t := []) dk_g42 (by decide +kernel)
theorem dJx4a65c_grow_92f84_33 : decode cJx4a65c_grow_92f84 33 = .ok (.getfield 9, 3) := dk_u2 (y := 0) (z := 9) dk_g180 (by decide +kernel) rfl
theorem dJx4a65c_grow_92f84_36 : decode cJx4a65c_grow_92f84 36 = .ok (.iload_n 3, 1) := dk_n (t := []) dk_g29 (by decide +kernel)
theorem dJx4a65c_grow_92f84_37 : decode cJx4a65c_grow_92f84 37 = .ok (.invokestatic 66, 3) := dk_u2 (y := 0) (z := 66) dk_g184 (by decide +kernel) rfl
theorem dJx4a65c_grow_92f84_40 : decode cJx4a65c_grow_92f84 40 = .ok (.dup_x1, 1) := dk_n (t := []) dk_g90 (by decide +kernel)
theorem dJx4a65c_grow_92f84_41 : decode cJx4a65c_grow_92f84 41 = .ok (.putfield 9, 3) := dk_u2 (y := 0) (z := 9) dk_g181 (by decide +kernel) rfl
theorem dJx4a65c_grow_92f84_44 : decode cJx4a65c_grow_92f84 44 = .ok (.areturn, 1) := dk_n (t := []) dk_g176 (by decide +kernel)
theorem dJx4a65c_grow_92f84_45 : decode cJx4a65c_grow_92f84 45 = .ok (.aload_n 0, 1) := dk_n (t := []) dk_g42 (by decide +kernel)
theorem dJx4a65c_grow_92f84_46 : decode cJx4a65c_grow_92f84 46 = .ok (.bipush 10, 2) := dk_s1 (y := 10) dk_g16 (by decide +kernel) rfl
theorem dJx4a65c_grow_92f84_48 : decode cJx4a65c_grow_92f84 48 = .ok (.iload_n 1, 1) := dk_n (t := []) dk_g27 (by decide +kernel)
theorem dJx4a65c_grow_92f84_49 : decode cJx4a65c_grow_92f84 49 = .ok (.invokestatic 79, 3) := dk_u2 (y := 0) (z := 79) dk_g184 (by decide +kernel) rfl
theorem dJx4a65c_grow_92f84_52 : decode cJx4a65c_grow_92f84 52 = .ok (.anewarray 7, 3) := dk_u2 (y := 0) (z := 7) dk_g189 (by decide +kernel) rfl
theorem dJx4a65c_grow_92f84_55 : decode cJx4a65c_grow_92f84 55 = .ok (.dup_x1, 1) := dk_n (t := []) dk_g90 (by decide +kernel)
theorem dJx4a65c_grow_92f84_56 : decode cJx4a65c_grow_92f84 56 = .ok (.putfield 9, 3) := dk_u2 (y := 0) (z := 9) dk_g181 (by decide +kernel) rfl
theorem dJx4a65c_grow_92f84_59 : decode cJx4a65c_grow_92f84 59 = .ok (.areturn, 1) := dk_n (t := []) dk_g176 (by decide +kernel)
theorem dJx4a65c_grow_d5877_0 : decode cJx4a65c_grow_d5877 0 = .ok (.aload_n 0, 1) := dk_n (t := []) dk_g42 (by decide +kernel)
theorem dJx4a65c_grow_d5877_1 : decode cJx4a65c_grow_d5877 1 = .ok (.aload_n 0, 1) := dk_n (t := []) dk_g42 (by decide +kernel)
theorem dJx4a65c_grow_d5877_2 : decode cJx4a65c_grow_d5877 2 = .ok (.getfield 48, 3) := dk_u2 (y := 0) (z := 48) dk_g180 (by decide +kernel) rfl
theorem dJx4a65c_grow_d5877_5 : decode cJx4a65c_grow_d5877 5 = .ok (.iconst 1, 1) := dk_n (t := []) dk_g4 (by decide +kernel)
theorem dJx4a65c_grow_d5877_6 : decode cJx4a65c_grow_d5877 6 = .ok (.iadd, 1) := dk_n (t := []) dk_g96 (by decide +kernel)
theorem dJx4a65c_grow_d5877_7 : decode cJx4a65c_grow_d5877 7 = .ok (.invokevirtual 69, 3) := dk_u2 (y := 0) (z := 69) dk_g182 (by decide +kernel) rfl
theorem dJx4a65c_grow_d5877_10 : decode cJx4a65c_grow_d5877 10 = .ok (.areturn, 1) := dk_n (t := []) dk_g176 (by decide +kernel)
theorem dJx4a65c_size_8abf5_0 : decode cJx4a65c_size_8abf5 0 = .ok (.aload_n 0, 1) := dk_n (t := []) dk_g42 (by decide +kernel)
theorem dJx4a65c_size_8abf5_1 : decode cJx4a65c_size_8abf5 1 = .ok (.getfield 48, 3) := dk_u2 (y := 0) (z := 48) dk_g180 (by decide +kernel) rfl
theorem dJx4a65c_size_8abf5_4 : decode cJx4a65c_size_8abf5 4 = .ok (.ireturn, 1) := dk_n (t := []) dk_g172 (by decide +kernel)
theorem dJx4a65c_elementData_915e3_0 : decode cJx4a65c_elementData_915e3 0 = .ok (.aload_n 0, 1) := dk_n (t := []) dk_g42 (by decide +kernel)
theorem dJx4a65c_elementData_915e3_1 : decode cJx4a65c_elementData_915e3 1 = .ok (.getfield 9, 3) := dk_u2 (y := 0) (z := 9) dk_g180 (by decide +kernel) rfl
theorem dJx4a65c_elementData_915e3_4 : decode cJx4a65c_elementData_915e3 4 = .ok (.iload_n 1, 1) := dk_n (t := []) dk_g27 (by decide +kernel)
theorem dJx4a65c_elementData_915e3_5 : decode cJx4a65c_elementData_915e3 5 = .ok (.aaload, 1) := dk_n (t := []) dk_g50 (by decide +kernel)
theorem dJx4a65c_elementData_915e3_6 : decode cJx4a65c_elementData_915e3 6 = .ok (.areturn, 1) := dk_n (t := []) dk_g176 (by decide +kernel)
theorem dJx4a65c_get_915e3_0 : decode cJx4a65c_get_915e3 0 = .ok (.iload_n 1, 1) := dk_n (t := []) dk_g27 (by decide +kernel)
theorem dJx4a65c_get_915e3_1 : decode cJx4a65c_get_915e3 1 = .ok (.aload_n 0, 1) := dk_n (t := []) dk_g42 (by decide +kernel)
theorem dJx4a65c_get_915e3_2 : decode cJx4a65c_get_915e3 2 = .ok (.getfield 48, 3) := dk_u2 (y := 0) (z := 48) dk_g180 (by decide +kernel) rfl
theorem dJx4a65c_get_915e3_5 : decode cJx4a65c_get_915e3 5 = .ok (.invokestatic 118, 3) := dk_u2 (y := 0) (z := 118) dk_g184 (by decide +kernel) rfl
theorem dJx4a65c_get_915e3_8 : decode cJx4a65c_get_915e3 8 = .ok (.pop, 1) := dk_n (t := []) dk_g87 (by decide +kernel)
theorem dJx4a65c_get_915e3_9 : decode cJx4a65c_get_915e3 9 = .ok (.aload_n 0, 1) := dk_n (t := []) dk_g42 (by decide +kernel)
theorem dJx4a65c_get_915e3_10 : decode cJx4a65c_get_915e3 10 = .ok (.iload_n 1, 1) := dk_n (t := []) dk_g27 (by decide +kernel)
theorem dJx4a65c_get_915e3_11 : decode cJx4a65c_get_915e3 11 = .ok (.invokevirtual 123, 3) := dk_u2 (y := 0) (z := 123) dk_g182 (by decide +kernel) rfl
theorem dJx4a65c_get_915e3_14 : decode cJx4a65c_get_915e3 14 = .ok (.areturn, 1) := dk_n (t := []) dk_g176 (by decide +kernel)
theorem dJx4a65c_add_72be8_0 : decode cJx4a65c_add_72be8 0 = .ok (.iload_n 3, 1) := dk_n (t := []) dk_g29 (by decide +kernel)
theorem dJx4a65c_add_72be8_1 : decode cJx4a65c_add_72be8 1 = .ok (.aload_n 2, 1) := dk_n (t := []) dk_g44 (by decide +kernel)
theorem dJx4a65c_add_72be8_2 : decode cJx4a65c_add_72be8 2 = .ok (.arraylength, 1) := dk_n (t := []) dk_g190 (by decide +kernel)
theorem dJx4a65c_add_72be8_3 : decode cJx4a65c_add_72be8 3 = .ok (.if_icmp .ne 8, 3) := dk_s2 (y := 0) (z := 8) dk_g160 (by decide +kernel) rfl
theorem dJx4a65c_add_72be8_6 : decode cJx4a65c_add_72be8 6 = .ok (.aload_n 0, 1) := dk_n (t := []) dk_g42 (by decide +kernel)
theorem dJx4a65c_add_72be8_7 : decode cJx4a65c_add_72be8 7 = .ok (.invokevirtual 129, 3) := dk_u2 (y := 0) (z := 129) dk_g182 (by decide +kernel) rfl
theorem dJx4a65c_add_72be8_10 : decode cJx4a65c_add_72be8 10 = .ok (.astore_n 2, 1) := dk_n (t := []) dk_g77 (by decide +kernel)
theorem dJx4a65c_add_72be8_11 : decode cJx4a65c_add_72be8 11 = .ok (.aload_n 2, 1) := dk_n (t := []) dk_g44 (by decide +kernel)
theorem dJx4a65c_add_72be8_12 : decode cJx4a65c_add_72be8 12 = .ok (.iload_n 3, 1) := dk_n (t := []) dk_g29 (by decide +kernel)
theorem dJx4a65c_add_72be8_13 : decode cJx4a65c_add_72be8 13 = .ok (.aload_n 1, 1) := dk_n (t := []) dk_g43 (by decide +kernel)
theorem dJx4a65c_add_72be8_14 : decode cJx4a65c_add_72be8 14 = .ok (.aastore, 1) := dk_n (t := []) dk_g83 (by decide +kernel)
theorem dJx4a65c_add_72be8_15 : decode cJx4a65c_add_72be8 15 = .ok (.aload_n 0, 1) := dk_n (t := []) dk_g42 (by decide +kernel)
theorem dJx4a65c_add_72be8_16 : decode cJx4a65c_add_72be8 16 = .ok (.iload_n 3, 1) := dk_n (t := []) dk_g29 (by decide +kernel)
theorem dJx4a65c_add_72be8_17 : decode cJx4a65c_add_72be8 17 = .ok (.iconst 1, 1) := dk_n (t := []) dk_g4 (by decide +kernel)
theorem dJx4a65c_add_72be8_18 : decode cJx4a65c_add_72be8 18 = .ok (.iadd, 1) := dk_n (t := []) dk_g96 (by decide +kernel)
theorem dJx4a65c_add_72be8_19 : decode cJx4a65c_add_72be8 19 = .ok (.putfield 48, 3) := dk_u2 (y := 0) (z := 48) dk_g181 (by decide +kernel) rfl
theorem dJx4a65c_add_72be8_22 : decode cJx4a65c_add_72be8 22 = .ok (.return_, 1) := dk_n (t := []) dk_g177 (by decide +kernel)
theorem dJx4a65c_add_9ea2d_0 : decode cJx4a65c_add_9ea2d 0 = .ok (.aload_n 0, 1) := dk_n (t := []) dk_g42 (by decide +kernel)
theorem dJx4a65c_add_9ea2d_1 : decode cJx4a65c_add_9ea2d 1 = .ok (.dup, 1) := dk_n (t := []) dk_g89 (by decide +kernel)
theorem dJx4a65c_add_9ea2d_2 : decode cJx4a65c_add_9ea2d 2 = .ok (.getfield 63, 3) := dk_u2 (y := 0) (z := 63) dk_g180 (by decide +kernel) rfl
theorem dJx4a65c_add_9ea2d_5 : decode cJx4a65c_add_9ea2d 5 = .ok (.iconst 1, 1) := dk_n (t := []) dk_g4 (by decide +kernel)
theorem dJx4a65c_add_9ea2d_6 : decode cJx4a65c_add_9ea2d 6 = .ok (.iadd, 1) := dk_n (t := []) dk_g96 (by decide +kernel)
theorem dJx4a65c_add_9ea2d_7 : decode cJx4a65c_add_9ea2d 7 = .ok (.putfield 63, 3) := dk_u2 (y := 0) (z := 63) dk_g181 (by decide +kernel) rfl
theorem dJx4a65c_add_9ea2d_10 : decode cJx4a65c_add_9ea2d 10 = .ok (.aload_n 0, 1) := dk_n (t := []) dk_g42 (by decide +kernel)
theorem dJx4a65c_add_9ea2d_11 : decode cJx4a65c_add_9ea2d 11 = .ok (.aload_n 1, 1) := dk_n (t := []) dk_g43 (by decide +kernel)
theorem dJx4a65c_add_9ea2d_12 : decode cJx4a65c_add_9ea2d 12 = .ok (.aload_n 0, 1) := dk_n (t := []) dk_g42 (by decide +kernel)
theorem dJx4a65c_add_9ea2d_13 : decode cJx4a65c_add_9ea2d 13 = .ok (.getfield 9, 3) := dk_u2 (y := 0) (z := 9) dk_g180 (by decide +kernel) rfl
theorem dJx4a65c_add_9ea2d_16 : decode cJx4a65c_add_9ea2d 16 = .ok (.aload_n 0, 1) := dk_n (t := []) dk_g42 (by decide +kernel)
theorem dJx4a65c_add_9ea2d_17 : decode cJx4a65c_add_9ea2d 17 = .ok (.getfield 48, 3) := dk_u2 (y := 0) (z := 48) dk_g180 (by decide +kernel) rfl
theorem dJx4a65c_add_9ea2d_20 : decode cJx4a65c_add_9ea2d 20 = .ok (.invokevirtual 131, 3) := dk_u2 (y := 0) (z := 131) dk_g182 (by decide +kernel) rfl
theorem dJx4a65c_add_9ea2d_23 : decode cJx4a65c_add_9ea2d 23 = .ok (.iconst 1, 1) := dk_n (t := []) dk_g4 (by decide +kernel)
theorem dJx4a65c_add_9ea2d_24 : decode cJx4a65c_add_9ea2d 24 = .ok (.ireturn, 1) := dk_n (t := []) dk_g172 (by decide +kernel)
theorem dJx4a65c_iterator_32c93_0 : decode cJx4a65c_iterator_32c93 0 = .ok (.new 267, 3) := dk_u2 (y := 1) (z := 11) dk_g187 (by decide +kernel) rfl
theorem dJx4a65c_iterator_32c93_3 : decode cJx4a65c_iterator_32c93 3 = .ok (.dup, 1) := dk_n (t := []) dk_g89 (by decide +kernel)
theorem dJx4a65c_iterator_32c93_4 : decode cJx4a65c_iterator_32c93 4 = .ok (.aload_n 0, 1) := dk_n (t := []) dk_g42 (by decide +kernel)
theorem dJx4a65c_iterator_32c93_5 : decode cJx4a65c_iterator_32c93 5 = .ok (.invokespecial 269, 3) := dk_u2 (y := 1) (z := 13) dk_g183 (by decide +kernel) rfl
theorem dJx4a65c_iterator_32c93_8 : decode cJx4a65c_iterator_32c93 8 = .ok (.areturn, 1) := dk_n (t := []) dk_g176 (by decide +kernel)
theorem dJ7_fill_53178_0 : decode cJ7_fill_53178 0 = .ok (.iconst 0, 1) := dk_n (t := []) dk_g3 (by decide +kernel)
theorem dJ7_fill_53178_1 : decode cJ7_fill_53178 1 = .ok (.istore_n 2, 1) := dk_n (t := []) dk_g61 (by decide +kernel)
theorem dJ7_fill_53178_2 : decode cJ7_fill_53178 2 = .ok (.aload_n 0, 1) := dk_n (t := []) dk_g42 (by decide +kernel)
theorem dJ7_fill_53178_3 : decode cJ7_fill_53178 3 = .ok (.arraylength, 1) := dk_n (t := []) dk_g190 (by decide +kernel)
theorem dJ7_fill_53178_4 : decode cJ7_fill_53178 4 = .ok (.istore_n 3, 1) := dk_n (t := []) dk_g62 (by decide +kernel)
theorem dJ7_fill_53178_5 : decode cJ7_fill_53178 5 = .ok (.iload_n 2, 1) := dk_n (t := []) dk_g28 (by decide +kernel)
theorem dJ7_fill_53178_6 : decode cJ7_fill_53178 6 = .ok (.iload_n 3, 1) := dk_n (t := []) dk_g29 (by decide +kernel)
theorem dJ7_fill_53178_7 : decode cJ7_fill_53178 7 = .ok (.if_icmp .ge 13, 3) := dk_s2 (y := 0) (z := 13) dk_g162 (by decide +kernel) rfl
theorem dJ7_fill_53178_10 : decode cJ7_fill_53178 10 = .ok (.aload_n 0, 1) := dk_n (t := []) dk_g42 (by decide +kernel)
theorem dJ7_fill_53178_11 : decode cJ7_fill_53178 11 = .ok (.iload_n 2, 1) := dk_n (t := []) dk_g28 (by decide +kernel)
theorem dJ7_fill_53178_12 : decode cJ7_fill_53178 12 = .ok (.iload_n 1, 1) := dk_n (t := []) dk_g27 (by decide +kernel)
theorem dJ7_fill_53178_13 : decode cJ7_fill_53178 13 = .ok (.iastore, 1) := dk_n (t := []) dk_g79 (by decide +kernel)
theorem dJ7_fill_53178_14 : decode cJ7_fill_53178 14 = .ok (.iinc 2 1, 3) := dk_ii (y := 2) (z := 1) dk_g132 (by decide +kernel) rfl
theorem dJ7_fill_53178_17 : decode cJ7_fill_53178 17 = .ok (.goto (-12), 3) := dk_s2 (y := 255) (z := 244) dk_g167 (by decide +kernel) rfl
theorem dJ7_fill_53178_20 : decode cJ7_fill_53178 20 = .ok (.return_, 1) := dk_n (t := []) dk_g177 (by decide +kernel)
theorem dJ7_copyOf_1904c_0 : decode cJ7_copyOf_1904c 0 = .ok (.aload_n 0, 1) := dk_n (t := []) dk_g42 (by decide +kernel)
theorem dJ7_copyOf_1904c_1 : decode cJ7_copyOf_1904c 1 = .ok (.iload_n 1, 1) := dk_n (t := []) dk_g27 (by decide +kernel)
theorem dJ7_copyOf_1904c_2 : decode cJ7_copyOf_1904c 2 = .ok (.aload_n 0, 1) := dk_n (t := []) dk_g42 (by decide +kernel)
theorem dJ7_copyOf_1904c_3 : decode cJ7_copyOf_1904c 3 = .ok (.invokevirtual 86, 3) := dk_u2 (y := 0) (z := 86) dk_g182 (by decide +kernel) rfl
theorem dJ7_copyOf_1904c_6 : decode cJ7_copyOf_1904c 6 = .ok (.invokestatic 300, 3) := dk_u2 (y := 1) (z := 44) dk_g184 (by decide +kernel) rfl
theorem dJ7_copyOf_1904c_9 : decode cJ7_copyOf_1904c 9 = .ok (.areturn, 1) := dk_n (t := []) dk_g176 (by decide +kernel)
theorem dJ7_copyOf_6403c_0 : decode cJ7_copyOf_6403c 0 = .ok (.aload_n 2, 1) := dk_n (t := []) dk_g44 (by decide +kernel)
theorem dJ7_copyOf_6403c_1 : decode cJ7_copyOf_6403c 1 = .ok (.ldc 110, 2) := dk_u1 (y := 110) dk_g18 (by decide +kernel)
theorem dJ7_copyOf_6403c_3 : decode cJ7_copyOf_6403c 3 = .ok (.if_acmp .ne 10, 3) := dk_s2 (y := 0) (z := 10) dk_g166 (by decide +kernel) rfl
theorem dJ7_copyOf_6403c_6 : decode cJ7_copyOf_6403c 6 = .ok (.iload_n 1, 1) := dk_n (t := []) dk_g27 (by decide +kernel)
theorem dJ7_copyOf_6403c_7 : decode cJ7_copyOf_6403c 7 = .ok (.anewarray 2, 3) := dk_u2 (y := 0) (z := 2) dk_g189 (by decide +kernel) rfl
theorem dJ7_copyOf_6403c_10 : decode cJ7_copyOf_6403c 10 = .ok (.goto 14, 3) := dk_s2 (y := 0) (z := 14) dk_g167 (by decide +kernel) rfl
theorem dJ7_copyOf_6403c_13 : decode cJ7_copyOf_6403c 13 = .ok (.aload_n 2, 1) := dk_n (t := []) dk_g44 (by decide +kernel)
theorem dJ7_copyOf_6403c_14 : decode cJ7_copyOf_6403c 14 = .ok (.invokevirtual 90, 3) := dk_u2 (y := 0) (z := 90) dk_g182 (by decide +kernel) rfl
theorem dJ7_copyOf_6403c_17 : decode cJ7_copyOf_6403c 17 = .ok (.iload_n 1, 1) := dk_n (t := []) dk_g27 (by decide +kernel)
theorem dJ7_copyOf_6403c_18 : decode cJ7_copyOf_6403c 18 = .ok (.invokestatic 95, 3) := dk_u2 (y := 0) (z := 95) dk_g184 (by decide +kernel) rfl
theorem dJ7_copyOf_6403c_21 : decode cJ7_copyOf_6403c 21 = .ok (.checkcast 110, 3) := dk_u2 (y := 0) (z := 110) dk_g192 (by decide +kernel) rfl
theorem dJ7_copyOf_6403c_24 : decode cJ7_copyOf_6403c 24 = .ok (.astore_n 3, 1) := dk_n (t := []) dk_g78 (by decide +kernel)
theorem dJ7_copyOf_6403c_25 : decode cJ7_copyOf_6403c 25 = .ok (.aload_n 0, 1) := dk_n (t := []) dk_g42 (by decide +kernel)
theorem dJ7_copyOf_6403c_26 : decode cJ7_copyOf_6403c 26 = .ok (.iconst 0, 1) := dk_n (t := []) dk_g3 (by decide +kernel)
theorem dJ7_copyOf_6403c_27 : decode cJ7_copyOf_6403c 27 = .ok (.aload_n 3, 1) := dk_n (t := []) dk_g45 (by decide +kernel)
theorem dJ7_copyOf_6403c_28 : decode cJ7_copyOf_6403c 28 = .ok (.iconst 0, 1) := dk_n (t := []) dk_g3 (by decide +kernel)
theorem dJ7_copyOf_6403c_29 : decode cJ7_copyOf_6403c 29 = .ok (.aload_n 0, 1) := dk_n (t := []) dk_g42 (by decide +kernel)
theorem dJ7_copyOf_6403c_30 : decode cJ7_copyOf_6403c 30 = .ok (.arraylength, 1) := dk_n (t := []) dk_g190 (by decide +kernel)
theorem dJ7_copyOf_6403c_31 : decode cJ7_copyOf_6403c 31 = .ok (.iload_n 1, 1) := dk_n (t := []) dk_g27 (by decide +kernel)
theorem dJ7_copyOf_6403c_32 : decode cJ7_copyOf_6403c 32 = .ok (.invokestatic 304, 3) := dk_u2 (y := 1) (z := 48) dk_g184 (by decide +kernel) rfl
theorem dJ7_copyOf_6403c_35 : decode cJ7_copyOf_6403c 35 = .ok (.invokestatic 150, 3) := dk_u2 (y := 0) (z := 150) dk_g184 (by decide +kernel) rfl
theorem dJ7_copyOf_6403c_38 : decode cJ7_copyOf_6403c 38 = .ok (.aload_n 3, 1) := dk_n (t := []) dk_g45 (by decide +kernel)
theorem dJ7_copyOf_6403c_39 : decode cJ7_copyOf_6403c 39 = .ok (.areturn, 1) := dk_n (t := []) dk_g176 (by decide +kernel)
theorem dJ7_copyOf_9075b_0 : decode cJ7_copyOf_9075b 0 = .ok (.iload_n 1, 1) := dk_n (t := []) dk_g27 (by decide +kernel)
theorem dJ7_copyOf_9075b_1 : decode cJ7_copyOf_9075b 1 = .ok (.aload_n 0, 1) := dk_n (t := []) dk_g42 (by decide +kernel)
theorem dJ7_copyOf_9075b_2 : decode cJ7_copyOf_9075b 2 = .ok (.arraylength, 1) := dk_n (t := []) dk_g190 (by decide +kernel)
theorem dJ7_copyOf_9075b_3 : decode cJ7_copyOf_9075b 3 = .ok (.if_icmp .ne 11, 3) := dk_s2 (y := 0) (z := 11) dk_g160 (by decide +kernel) rfl
theorem dJ7_copyOf_9075b_6 : decode cJ7_copyOf_9075b 6 = .ok (.aload_n 0, 1) := dk_n (t := []) dk_g42 (by decide +kernel)
theorem dJ7_copyOf_9075b_7 : decode cJ7_copyOf_9075b 7 = .ok (.invokevirtual 310, 3) := dk_u2 (y := 1) (z := 54) dk_g182 (by decide +kernel) rfl
theorem dJ7_copyOf_9075b_10 : decode cJ7_copyOf_9075b 10 = .ok (.checkcast 311, 3) := dk_u2 (y := 1) (z := 55) dk_g192 (by decide +kernel) rfl
theorem dJ7_copyOf_9075b_13 : decode cJ7_copyOf_9075b 13 = .ok (.areturn, 1) := dk_n (t := []) dk_g176 (by decide +kernel)
theorem dJ7_copyOf_9075b_14 : decode cJ7_copyOf_9075b 14 = .ok (.iload_n 1, 1) := dk_n (t := []) dk_g27 (by decide +kernel)
theorem dJ7_copyOf_9075b_15 : decode cJ7_copyOf_9075b 15 = .ok (.newarray .byte, 2) := by decide +kernel
theorem dJ7_copyOf_9075b_17 : decode cJ7_copyOf_9075b 17 = .ok (.astore_n 2, 1) := dk_n (t := []) dk_g77 (by decide +kernel)
theorem dJ7_copyOf_9075b_18 : decode cJ7_copyOf_9075b 18 = .ok (.aload_n 0, 1) := dk_n (t := []) dk_g42 (by decide +kernel)
theorem dJ7_copyOf_9075b_19 : decode cJ7_copyOf_9075b 19 = .ok (.iconst 0, 1) := dk_n (t := []) dk_g3 (by decide +kernel)
theorem dJ7_copyOf_9075b_20 : decode cJ7_copyOf_9075b 20 = .ok (.aload_n 2, 1) := dk_n (t := []) dk_g44 (by decide +kernel)
theorem dJ7_copyOf_9075b_21 : decode cJ7_copyOf_9075b 21 = .ok (.iconst 0, 1) := dk_n (t := []) dk_g3 (by decide +kernel)
theorem dJ7_copyOf_9075b_22 : decode cJ7_copyOf_9075b 22 = .ok (.aload_n 0, 1) := dk_n (t := []) dk_g42 (by decide +kernel)
theorem dJ7_copyOf_9075b_23 : decode cJ7_copyOf_9075b 23 = .ok (.arraylength, 1) := dk_n (t := []) dk_g190 (by decide +kernel)
theorem dJ7_copyOf_9075b_24 : decode cJ7_copyOf_9075b 24 = .ok (.iload_n 1, 1) := dk_n (t := []) dk_g27 (by decide +kernel)
theorem dJ7_copyOf_9075b_25 : decode cJ7_copyOf_9075b 25 = .ok (.invokestatic 304, 3) := dk_u2 (y := 1) (z := 48) dk_g184 (by decide +kernel) rfl
theorem dJ7_copyOf_9075b_28 : decode cJ7_copyOf_9075b 28 = .ok (.invokestatic 150, 3) := dk_u2 (y := 0) (z := 150) dk_g184 (by decide +kernel) rfl
theorem dJ7_copyOf_9075b_31 : decode cJ7_copyOf_9075b 31 = .ok (.aload_n 2, 1) := dk_n (t := []) dk_g44 (by decide +kernel)
theorem dJ7_copyOf_9075b_32 : decode cJ7_copyOf_9075b 32 = .ok (.areturn, 1) := dk_n (t := []) dk_g176 (by decide +kernel)
theorem dJ7_checkLength_df160_0 : decode cJ7_checkLength_df160 0 = .ok (.iload_n 1, 1) := dk_n (t := []) dk_g27 (by decide +kernel)
theorem dJ7_checkLength_df160_1 : decode cJ7_checkLength_df160 1 = .ok (.iload_n 0, 1) := dk_n (t := []) dk_g26 (by decide +kernel)
theorem dJ7_checkLength_df160_2 : decode cJ7_checkLength_df160 2 = .ok (.if_icmp .ge 35, 3) := dk_s2 (y := 0) (z := 35) dk_g162 (by decide +kernel) rfl
theorem dJ7_checkLength_df160_5 : decode cJ7_checkLength_df160 5 = .ok (.new 43, 3) := dk_u2 (y := 0) (z := 43) dk_g187 (by decide +kernel) rfl
theorem dJ7_checkLength_df160_8 : decode cJ7_checkLength_df160 8 = .ok (.dup, 1) := dk_n (t := []) dk_g89 (by decide +kernel)
theorem dJ7_checkLength_df160_9 : decode cJ7_checkLength_df160 9 = .ok (.new 45, 3) := dk_u2 (y := 0) (z := 45) dk_g187 (by decide +kernel) rfl
theorem dJ7_checkLength_df160_12 : decode cJ7_checkLength_df160 12 = .ok (.dup, 1) := dk_n (t := []) dk_g89 (by decide +kernel)
theorem dJ7_checkLength_df160_13 : decode cJ7_checkLength_df160 13 = .ok (.invokespecial 47, 3) := dk_u2 (y := 0) (z := 47) dk_g183 (by decide +kernel) rfl
theorem dJ7_checkLength_df160_16 : decode cJ7_checkLength_df160 16 = .ok (.iload_n 0, 1) := dk_n (t := []) dk_g26 (by decide +kernel)
theorem dJ7_checkLength_df160_17 : decode cJ7_checkLength_df160 17 = .ok (.invokevirtual 54, 3) := dk_u2 (y := 0) (z := 54) dk_g182 (by decide +kernel) rfl
theorem dJ7_checkLength_df160_20 : decode cJ7_checkLength_df160 20 = .ok (.ldc_w 337, 3) := dk_u2 (y := 1) (z := 81) dk_g19 (by decide +kernel) rfl
theorem dJ7_checkLength_df160_23 : decode cJ7_checkLength_df160 23 = .ok (.invokevirtual 50, 3) := dk_u2 (y := 0) (z := 50) dk_g182 (by decide +kernel) rfl
theorem dJ7_checkLength_df160_26 : decode cJ7_checkLength_df160 26 = .ok (.iload_n 1, 1) := dk_n (t := []) dk_g27 (by decide +kernel)
theorem dJ7_checkLength_df160_27 : decode cJ7_checkLength_df160 27 = .ok (.invokevirtual 54, 3) := dk_u2 (y := 0) (z := 54) dk_g182 (by decide +kernel) rfl
theorem dJ7_checkLength_df160_30 : decode cJ7_checkLength_df160 30 = .ok (.invokevirtual 61, 3) := dk_u2 (y := 0) (z := 61) dk_g182 (by decide +kernel) rfl
theorem dJ7_checkLength_df160_33 : decode cJ7_checkLength_df160 33 = .ok (.invokespecial 65, 3) := dk_u2 (y := 0) (z := 65) dk_g183 (by decide +kernel) rfl
theorem dJ7_checkLength_df160_36 : decode cJ7_checkLength_df160 36 = .ok (.athrow, 1) := dk_n (t := []) dk_g191 (by decide +kernel)
theorem dJ7_checkLength_df160_37 : decode cJ7_checkLength_df160 37 = .ok (.return_, 1) := dk_n (t := []) dk_g177 (by decide +kernel)
theorem dJ7_copyOfRange_39247_0 : decode cJ7_copyOfRange_39247 0 = .ok (.iload_n 1, 1) := dk_n (t := []) dk_g27 (by decide +kernel)
theorem dJ7_copyOfRange_39247_1 : decode cJ7_copyOfRange_39247 1 = .ok (.ifCond .ne 9, 3) := dk_s2 (y := 0) (z := 9) dk_g154 (by decide +kernel) rfl
theorem dJ7_copyOfRange_39247_4 : decode cJ7_copyOfRange_39247 4 = .ok (.iload_n 2, 1) := dk_n (t := []) dk_g28 (by decide +kernel)
theorem dJ7_copyOfRange_39247_5 : decode cJ7_copyOfRange_39247 5 = .ok (.aload_n 0, 1) := dk_n (t := []) dk_g42 (by decide +kernel)
theorem dJ7_copyOfRange_39247_6 : decode cJ7_copyOfRange_39247 6 = .ok (.arraylength, 1) := dk_n (t := []) dk_g190 (by decide +kernel)
theorem dJ7_copyOfRange_39247_7 : decode cJ7_copyOfRange_39247 7 = .ok (.if_icmp .eq 10, 3) := dk_s2 (y := 0) (z := 10) dk_g159 (by decide +kernel) rfl
theorem dJ7_copyOfRange_39247_10 : decode cJ7_copyOfRange_39247 10 = .ok (.aload_n 0, 1) := dk_n (t := []) dk_g42 (by decide +kernel)
theorem dJ7_copyOfRange_39247_11 : decode cJ7_copyOfRange_39247 11 = .ok (.iload_n 1, 1) := dk_n (t := []) dk_g27 (by decide +kernel)
theorem dJ7_copyOfRange_39247_12 : decode cJ7_copyOfRange_39247 12 = .ok (.iload_n 2, 1) := dk_n (t := []) dk_g28 (by decide +kernel)
theorem dJ7_copyOfRange_39247_13 : decode cJ7_copyOfRange_39247 13 = .ok (.invokestatic 339, 3) := dk_u2 (y := 1) (z := 83) dk_g184 (by decide +kernel) rfl
theorem dJ7_copyOfRange_39247_16 : decode cJ7_copyOfRange_39247 16 = .ok (.areturn, 1) := dk_n (t := []) dk_g176 (by decide +kernel)
theorem dJ7_copyOfRange_39247_17 : decode cJ7_copyOfRange_39247 17 = .ok (.aload_n 0, 1) := dk_n (t := []) dk_g42 (by decide +kernel)
theorem dJ7_copyOfRange_39247_18 : decode cJ7_copyOfRange_39247 18 = .ok (.invokevirtual 310, 3) := dk_u2 (y := 1) (z := 54) dk_g182 (by decide +kernel) rfl
theorem dJ7_copyOfRange_39247_21 : decode cJ7_copyOfRange_39247 21 = .ok (.checkcast 311, 3) := dk_u2 (y := 1) (z := 55) dk_g192 (by decide +kernel) rfl
theorem dJ7_copyOfRange_39247_24 : decode cJ7_copyOfRange_39247 24 = .ok (.areturn, 1) := dk_n (t := []) dk_g176 (by decide +kernel)
theorem dJ7_copyOfRangeByte_39247_0 : decode cJ7_copyOfRangeByte_39247 0 = .ok (.iload_n 1, 1) := dk_n (t := []) dk_g27 (by decide +kernel)
theorem dJ7_copyOfRangeByte_39247_1 : decode cJ7_copyOfRangeByte_39247 1 = .ok (.iload_n 2, 1) := dk_n (t := []) dk_g28 (by decide +kernel)
theorem dJ7_copyOfRangeByte_39247_2 : decode cJ7_copyOfRangeByte_39247 2 = .ok (.invokestatic 343, 3) := dk_u2 (y := 1) (z := 87) dk_g184 (by decide +kernel) rfl
theorem dJ7_copyOfRangeByte_39247_5 : decode cJ7_copyOfRangeByte_39247 5 = .ok (.iload_n 2, 1) := dk_n (t := []) dk_g28 (by decide +kernel)
theorem dJ7_copyOfRangeByte_39247_6 : decode cJ7_copyOfRangeByte_39247 6 = .ok (.iload_n 1, 1) := dk_n (t := []) dk_g27 (by decide +kernel)
theorem dJ7_copyOfRangeByte_39247_7 : decode cJ7_copyOfRangeByte_39247 7 = .ok (.isub, 1) := dk_n (t := []) dk_g100 (by decide +kernel)
theorem dJ7_copyOfRangeByte_39247_8 : decode cJ7_copyOfRangeByte_39247 8 = .ok (.istore_n 3, 1) := dk_n (t := []) dk_g62 (by decide +kernel)
theorem dJ7_copyOfRangeByte_39247_9 : decode cJ7_copyOfRangeByte_39247 9 = .ok (.iload_n 3, 1) := dk_n (t := []) dk_g29 (by decide +kernel)
theorem dJ7_copyOfRangeByte_39247_10 : decode cJ7_copyOfRangeByte_39247 10 = .ok (.newarray .byte, 2) := by decide +kernel
theorem dJ7_copyOfRangeByte_39247_12 : decode cJ7_copyOfRangeByte_39247 12 = .ok (.astore 4, 2) := dk_u1 (y := 4) dk_g58 (by decide +kernel)
theorem dJ7_copyOfRangeByte_39247_14 : decode cJ7_copyOfRangeByte_39247 14 = .ok (.aload_n 0, 1) := dk_n (t := []) dk_g42 (by decide +kernel)
theorem dJ7_copyOfRangeByte_39247_15 : decode cJ7_copyOfRangeByte_39247 15 = .ok (.iload_n 1, 1) := dk_n (t := []) dk_g27 (by decide +kernel)
theorem dJ7_copyOfRangeByte_39247_16 : decode cJ7_copyOfRangeByte_39247 16 = .ok (.aload 4, 2) := dk_u1 (y := 4) dk_g25 (by decide +kernel)
theorem dJ7_copyOfRangeByte_39247_18 : decode cJ7_copyOfRangeByte_39247 18 = .ok (.iconst 0, 1) := dk_n (t := []) dk_g3 (by decide +kernel)
theorem dJ7_copyOfRangeByte_39247_19 : decode cJ7_copyOfRangeByte_39247 19 = .ok (.aload_n 0, 1) := dk_n (t := []) dk_g42 (by decide +kernel)
theorem dJ7_copyOfRangeByte_39247_20 : decode cJ7_copyOfRangeByte_39247 20 = .ok (.arraylength, 1) := dk_n (t := []) dk_g190 (by decide +kernel)
theorem dJ7_copyOfRangeByte_39247_21 : decode cJ7_copyOfRangeByte_39247 21 = .ok (.iload_n 1, 1) := dk_n (t := []) dk_g27 (by decide +kernel)
theorem dJ7_copyOfRangeByte_39247_22 : decode cJ7_copyOfRangeByte_39247 22 = .ok (.isub, 1) := dk_n (t := []) dk_g100 (by decide +kernel)
theorem dJ7_copyOfRangeByte_39247_23 : decode cJ7_copyOfRangeByte_39247 23 = .ok (.iload_n 3, 1) := dk_n (t := []) dk_g29 (by decide +kernel)
theorem dJ7_copyOfRangeByte_39247_24 : decode cJ7_copyOfRangeByte_39247 24 = .ok (.invokestatic 304, 3) := dk_u2 (y := 1) (z := 48) dk_g184 (by decide +kernel) rfl
theorem dJ7_copyOfRangeByte_39247_27 : decode cJ7_copyOfRangeByte_39247 27 = .ok (.invokestatic 150, 3) := dk_u2 (y := 0) (z := 150) dk_g184 (by decide +kernel) rfl
theorem dJ7_copyOfRangeByte_39247_30 : decode cJ7_copyOfRangeByte_39247 30 = .ok (.aload 4, 2) := dk_u1 (y := 4) dk_g25 (by decide +kernel)
theorem dJ7_copyOfRangeByte_39247_32 : decode cJ7_copyOfRangeByte_39247 32 = .ok (.areturn, 1) := dk_n (t := []) dk_g176 (by decide +kernel)
theorem dJ15_checkIndex_7cf53_0 : decode cJ15_checkIndex_7cf53 0 = .ok (.iload_n 0, 1) := dk_n (t := []) dk_g26 (by decide +kernel)
theorem dJ15_checkIndex_7cf53_1 : decode cJ15_checkIndex_7cf53 1 = .ok (.iload_n 1, 1) := dk_n (t := []) dk_g27 (by decide +kernel)
theorem dJ15_checkIndex_7cf53_2 : decode cJ15_checkIndex_7cf53 2 = .ok (.aconst_null, 1) := dk_n (t := []) dk_g1 (by decide +kernel)
theorem dJ15_checkIndex_7cf53_3 : decode cJ15_checkIndex_7cf53 3 = .ok (.invokestatic 105, 3) := dk_u2 (y := 0) (z := 105) dk_g184 (by decide +kernel) rfl
theorem dJ15_checkIndex_7cf53_6 : decode cJ15_checkIndex_7cf53 6 = .ok (.ireturn, 1) := dk_n (t := []) dk_g172 (by decide +kernel)
theorem dJ8_newLength_cabcc_0 : decode cJ8_newLength_cabcc 0 = .ok (.iload_n 0, 1) := dk_n (t := []) dk_g26 (by decide +kernel)
theorem dJ8_newLength_cabcc_1 : decode cJ8_newLength_cabcc 1 = .ok (.iload_n 1, 1) := dk_n (t := []) dk_g27 (by decide +kernel)
theorem dJ8_newLength_cabcc_2 : decode cJ8_newLength_cabcc 2 = .ok (.iload_n 2, 1) := dk_n (t := []) dk_g28 (by decide +kernel)
theorem dJ8_newLength_cabcc_3 : decode cJ8_newLength_cabcc 3 = .ok (.invokestatic 194, 3) := dk_u2 (y := 0) (z := 194) dk_g184 (by decide +kernel) rfl
theorem dJ8_newLength_cabcc_6 : decode cJ8_newLength_cabcc 6 = .ok (.iadd, 1) := dk_n (t := []) dk_g96 (by decide +kernel)
theorem dJ8_newLength_cabcc_7 : decode cJ8_newLength_cabcc 7 = .ok (.istore_n 3, 1) := dk_n (t := []) dk_g62 (by decide +kernel)
theorem dJ8_newLength_cabcc_8 : decode cJ8_newLength_cabcc 8 = .ok (.iconst 0, 1) := dk_n (t := []) dk_g3 (by decide +kernel)
theorem dJ8_newLength_cabcc_9 : decode cJ8_newLength_cabcc 9 = .ok (.iload_n 3, 1) := dk_n (t := []) dk_g29 (by decide +kernel)
theorem dJ8_newLength_cabcc_10 : decode cJ8_newLength_cabcc 10 = .ok (.if_icmp .ge 11, 3) := dk_s2 (y := 0) (z := 11) dk_g162 (by decide +kernel) rfl
theorem dJ8_newLength_cabcc_13 : decode cJ8_newLength_cabcc 13 = .ok (.iload_n 3, 1) := dk_n (t := []) dk_g29 (by decide +kernel)
theorem dJ8_newLength_cabcc_14 : decode cJ8_newLength_cabcc 14 = .ok (.ldc 200, 2) := dk_u1 (y := 200) dk_g18 (by decide +kernel)
theorem dJ8_newLength_cabcc_16 : decode cJ8_newLength_cabcc 16 = .ok (.if_icmp .gt 5, 3) := dk_s2 (y := 0) (z := 5) dk_g163 (by decide +kernel) rfl
theorem dJ8_newLength_cabcc_19 : decode cJ8_newLength_cabcc 19 = .ok (.iload_n 3, 1) := dk_n (t := []) dk_g29 (by decide +kernel)
theorem dJ8_newLength_cabcc_20 : decode cJ8_newLength_cabcc 20 = .ok (.ireturn, 1) := dk_n (t := []) dk_g172 (by decide +kernel)
theorem dJ8_newLength_cabcc_21 : decode cJ8_newLength_cabcc 21 = .ok (.iload_n 0, 1) := dk_n (t := []) dk_g26 (by decide +kernel)
theorem dJ8_newLength_cabcc_22 : decode cJ8_newLength_cabcc 22 = .ok (.iload_n 1, 1) := dk_n (t := []) dk_g27 (by decide +kernel)
theorem dJ8_newLength_cabcc_23 : decode cJ8_newLength_cabcc 23 = .ok (.invokestatic 201, 3) := dk_u2 (y := 0) (z := 201) dk_g184 (by decide +kernel) rfl
theorem dJ8_newLength_cabcc_26 : decode cJ8_newLength_cabcc 26 = .ok (.ireturn, 1) := dk_n (t := []) dk_g172 (by decide +kernel)
theorem dJ8_hugeLength_7cf53_0 : decode cJ8_hugeLength_7cf53 0 = .ok (.iload_n 0, 1) := dk_n (t := []) dk_g26 (by decide +kernel)
theorem dJ8_hugeLength_7cf53_1 : decode cJ8_hugeLength_7cf53 1 = .ok (.iload_n 1, 1) := dk_n (t := []) dk_g27 (by decide +kernel)
theorem dJ8_hugeLength_7cf53_2 : decode cJ8_hugeLength_7cf53 2 = .ok (.iadd, 1) := dk_n (t := []) dk_g96 (by decide +kernel)
theorem dJ8_hugeLength_7cf53_3 : decode cJ8_hugeLength_7cf53 3 = .ok (.istore_n 2, 1) := dk_n (t := []) dk_g61 (by decide +kernel)
theorem dJ8_hugeLength_7cf53_4 : decode cJ8_hugeLength_7cf53 4 = .ok (.iload_n 2, 1) := dk_n (t := []) dk_g28 (by decide +kernel)
theorem dJ8_hugeLength_7cf53_5 : decode cJ8_hugeLength_7cf53 5 = .ok (.ifCond .ge 44, 3) := dk_s2 (y := 0) (z := 44) dk_g156 (by decide +kernel) rfl
theorem dJ8_hugeLength_7cf53_8 : decode cJ8_hugeLength_7cf53 8 = .ok (.new 204, 3) := dk_u2 (y := 0) (z := 204) dk_g187 (by decide +kernel) rfl
theorem dJ8_hugeLength_7cf53_11 : decode cJ8_hugeLength_7cf53 11 = .ok (.dup, 1) := dk_n (t := []) dk_g89 (by decide +kernel)
theorem dJ8_hugeLength_7cf53_12 : decode cJ8_hugeLength_7cf53 12 = .ok (.new 89, 3) := dk_u2 (y := 0) (z := 89) dk_g187 (by decide +kernel) rfl
theorem dJ8_hugeLength_7cf53_15 : decode cJ8_hugeLength_7cf53 15 = .ok (.dup, 1) := dk_n (t := []) dk_g89 (by decide +kernel)
theorem dJ8_hugeLength_7cf53_16 : decode cJ8_hugeLength_7cf53 16 = .ok (.invokespecial 91, 3) := dk_u2 (y := 0) (z := 91) dk_g183 (by decide +kernel) rfl
theorem dJ8_hugeLength_7cf53_19 : decode cJ8_hugeLength_7cf53 19 = .ok (.ldc 206, 2) := dk_u1 (y := 206) dk_g18 (by decide +kernel)
theorem dJ8_hugeLength_7cf53_21 : decode cJ8_hugeLength_7cf53 21 = .ok (.invokevirtual 94, 3) := dk_u2 (y := 0) (z := 94) dk_g182 (by decide +kernel) rfl
theorem dJ8_hugeLength_7cf53_24 : decode cJ8_hugeLength_7cf53 24 = .ok (.iload_n 0, 1) := dk_n (t := []) dk_g26 (by decide +kernel)
theorem dJ8_hugeLength_7cf53_25 : decode cJ8_hugeLength_7cf53 25 = .ok (.invokevirtual 98, 3) := dk_u2 (y := 0) (z := 98) dk_g182 (by decide +kernel) rfl
theorem dJ8_hugeLength_7cf53_28 : decode cJ8_hugeLength_7cf53 28 = .ok (.ldc 208, 2) := dk_u1 (y := 208) dk_g18 (by decide +kernel)
theorem dJ8_hugeLength_7cf53_30 : decode cJ8_hugeLength_7cf53 30 = .ok (.invokevirtual 94, 3) := dk_u2 (y := 0) (z := 94) dk_g182 (by decide +kernel) rfl
theorem dJ8_hugeLength_7cf53_33 : decode cJ8_hugeLength_7cf53 33 = .ok (.iload_n 1, 1) := dk_n (t := []) dk_g27 (by decide +kernel)
theorem dJ8_hugeLength_7cf53_34 : decode cJ8_hugeLength_7cf53 34 = .ok (.invokevirtual 98, 3) := dk_u2 (y := 0) (z := 98) dk_g182 (by decide +kernel) rfl
theorem dJ8_hugeLength_7cf53_37 : decode cJ8_hugeLength_7cf53 37 = .ok (.ldc 210, 2) := dk_u1 (y := 210) dk_g18 (by decide +kernel)
theorem dJ8_hugeLength_7cf53_39 : decode cJ8_hugeLength_7cf53 39 = .ok (.invokevirtual 94, 3) := dk_u2 (y := 0) (z := 94) dk_g182 (by decide +kernel) rfl
theorem dJ8_hugeLength_7cf53_42 : decode cJ8_hugeLength_7cf53 42 = .ok (.invokevirtual 101, 3) := dk_u2 (y := 0) (z := 101) dk_g182 (by decide +kernel) rfl
theorem dJ8_hugeLength_7cf53_45 : decode cJ8_hugeLength_7cf53 45 = .ok (.invokespecial 212, 3) := dk_u2 (y := 0) (z := 212) dk_g183 (by decide +kernel) rfl
theorem dJ8_hugeLength_7cf53_48 : decode cJ8_hugeLength_7cf53 48 = .ok (.athrow, 1) := dk_n (t := []) dk_g191 (by decide +kernel)
theorem dJ8_hugeLength_7cf53_49 : decode cJ8_hugeLength_7cf53 49 = .ok (.iload_n 2, 1) := dk_n (t := []) dk_g28 (by decide +kernel)
theorem dJ8_hugeLength_7cf53_50 : decode cJ8_hugeLength_7cf53 50 = .ok (.ldc 200, 2) := dk_u1 (y := 200) dk_g18 (by decide +kernel)
theorem dJ8_hugeLength_7cf53_52 : decode cJ8_hugeLength_7cf53 52 = .ok (.if_icmp .gt 6, 3) := dk_s2 (y := 0) (z := 6) dk_g163 (by decide +kernel) rfl
theorem dJ8_hugeLength_7cf53_55 : decode cJ8_hugeLength_7cf53 55 = .ok (.ldc 200, 2) := dk_u1 (y := 200) dk_g18 (by decide +kernel)
theorem dJ8_hugeLength_7cf53_57 : decode cJ8_hugeLength_7cf53 57 = .ok (.ireturn, 1) := dk_n (t := []) dk_g172 (by decide +kernel)
theorem dJ8_hugeLength_7cf53_58 : decode cJ8_hugeLength_7cf53 58 = .ok (.iload_n 2, 1) := dk_n (t := []) dk_g28 (by decide +kernel)
theorem dJ8_hugeLength_7cf53_59 : decode cJ8_hugeLength_7cf53 59 = .ok (.ireturn, 1) := dk_n (t := []) dk_g172 (by decide +kernel)
theorem dJ3_checkIndex_8e157_0 : decode cJ3_checkIndex_8e157 0 = .ok (.iload_n 0, 1) := dk_n (t := []) dk_g26 (by decide +kernel)
theorem dJ3_checkIndex_8e157_1 : decode cJ3_checkIndex_8e157 1 = .ok (.ifCond .lt 8, 3) := dk_s2 (y := 0) (z := 8) dk_g155 (by decide +kernel) rfl
theorem dJ3_checkIndex_8e157_4 : decode cJ3_checkIndex_8e157 4 = .ok (.iload_n 0, 1) := dk_n (t := []) dk_g26 (by decide +kernel)
theorem dJ3_checkIndex_8e157_5 : decode cJ3_checkIndex_8e157 5 = .ok (.iload_n 1, 1) := dk_n (t := []) dk_g27 (by decide +kernel)
theorem dJ3_checkIndex_8e157_6 : decode cJ3_checkIndex_8e157 6 = .ok (.if_icmp .lt 10, 3) := dk_s2 (y := 0) (z := 10) dk_g161 (by decide +kernel) rfl
theorem dJ3_checkIndex_8e157_9 : decode cJ3_checkIndex_8e157 9 = .ok (.aload_n 2, 1) := dk_n (t := []) dk_g44 (by decide +kernel)
theorem dJ3_checkIndex_8e157_10 : decode cJ3_checkIndex_8e157 10 = .ok (.iload_n 0, 1) := dk_n (t := []) dk_g26 (by decide +kernel)
theorem dJ3_checkIndex_8e157_11 : decode cJ3_checkIndex_8e157 11 = .ok (.iload_n 1, 1) := dk_n (t := []) dk_g27 (by decide +kernel)
theorem dJ3_checkIndex_8e157_12 : decode cJ3_checkIndex_8e157 12 = .ok (.invokestatic 95, 3) := dk_u2 (y := 0) (z := 95) dk_g184 (by decide +kernel) rfl
theorem dJ3_checkIndex_8e157_15 : decode cJ3_checkIndex_8e157 15 = .ok (.athrow, 1) := dk_n (t := []) dk_g191 (by decide +kernel)
theorem dJ3_checkIndex_8e157_16 : decode cJ3_checkIndex_8e157 16 = .ok (.iload_n 0, 1) := dk_n (t := []) dk_g26 (by decide +kernel)
theorem dJ3_checkIndex_8e157_17 : decode cJ3_checkIndex_8e157 17 = .ok (.ireturn, 1) := dk_n (t := []) dk_g172 (by decide +kernel)
theorem dJ3_checkFromToIndex_8c36e_0 : decode cJ3_checkFromToIndex_8c36e 0 = .ok (.iload_n 0, 1) := dk_n (t := []) dk_g26 (by decide +kernel)
theorem dJ3_checkFromToIndex_8c36e_1 : decode cJ3_checkFromToIndex_8c36e 1 = .ok (.ifCond .lt 13, 3) := dk_s2 (y := 0) (z := 13) dk_g155 (by decide +kernel) rfl
theorem dJ3_checkFromToIndex_8c36e_4 : decode cJ3_checkFromToIndex_8c36e 4 = .ok (.iload_n 0, 1) := dk_n (t := []) dk_g26 (by decide +kernel)
theorem dJ3_checkFromToIndex_8c36e_5 : decode cJ3_checkFromToIndex_8c36e 5 = .ok (.iload_n 1, 1) := dk_n (t := []) dk_g27 (by decide +kernel)
theorem dJ3_checkFromToIndex_8c36e_6 : decode cJ3_checkFromToIndex_8c36e 6 = .ok (.if_icmp .gt 8, 3) := dk_s2 (y := 0) (z := 8) dk_g163 (by decide +kernel) rfl
theorem dJ3_checkFromToIndex_8c36e_9 : decode cJ3_checkFromToIndex_8c36e 9 = .ok (.iload_n 1, 1) := dk_n (t := []) dk_g27 (by decide +kernel)
theorem dJ3_checkFromToIndex_8c36e_10 : decode cJ3_checkFromToIndex_8c36e 10 = .ok (.iload_n 2, 1) := dk_n (t := []) dk_g28 (by decide +kernel)
theorem dJ3_checkFromToIndex_8c36e_11 : decode cJ3_checkFromToIndex_8c36e 11 = .ok (.if_icmp .le 11, 3) := dk_s2 (y := 0) (z := 11) dk_g164 (by decide +kernel) rfl
theorem dJ3_checkFromToIndex_8c36e_14 : decode cJ3_checkFromToIndex_8c36e 14 = .ok (.aload_n 3, 1) := dk_n (t := []) dk_g45 (by decide +kernel)
theorem dJ3_checkFromToIndex_8c36e_15 : decode cJ3_checkFromToIndex_8c36e 15 = .ok (.iload_n 0, 1) := dk_n (t := []) dk_g26 (by decide +kernel)
theorem dJ3_checkFromToIndex_8c36e_16 : decode cJ3_checkFromToIndex_8c36e 16 = .ok (.iload_n 1, 1) := dk_n (t := []) dk_g27 (by decide +kernel)
theorem dJ3_checkFromToIndex_8c36e_17 : decode cJ3_checkFromToIndex_8c36e 17 = .ok (.iload_n 2, 1) := dk_n (t := []) dk_g28 (by decide +kernel)
theorem dJ3_checkFromToIndex_8c36e_18 : decode cJ3_checkFromToIndex_8c36e 18 = .ok (.invokestatic 99, 3) := dk_u2 (y := 0) (z := 99) dk_g184 (by decide +kernel) rfl
theorem dJ3_checkFromToIndex_8c36e_21 : decode cJ3_checkFromToIndex_8c36e 21 = .ok (.athrow, 1) := dk_n (t := []) dk_g191 (by decide +kernel)
theorem dJ3_checkFromToIndex_8c36e_22 : decode cJ3_checkFromToIndex_8c36e 22 = .ok (.iload_n 0, 1) := dk_n (t := []) dk_g26 (by decide +kernel)
theorem dJ3_checkFromToIndex_8c36e_23 : decode cJ3_checkFromToIndex_8c36e 23 = .ok (.ireturn, 1) := dk_n (t := []) dk_g172 (by decide +kernel)
theorem dJ3_checkFromIndexSize_8c36e_0 : decode cJ3_checkFromIndexSize_8c36e 0 = .ok (.iload_n 2, 1) := dk_n (t := []) dk_g28 (by decide +kernel)
theorem dJ3_checkFromIndexSize_8c36e_1 : decode cJ3_checkFromIndexSize_8c36e 1 = .ok (.iload_n 0, 1) := dk_n (t := []) dk_g26 (by decide +kernel)
theorem dJ3_checkFromIndexSize_8c36e_2 : decode cJ3_checkFromIndexSize_8c36e 2 = .ok (.ior, 1) := dk_n (t := []) dk_g128 (by decide +kernel)
theorem dJ3_checkFromIndexSize_8c36e_3 : decode cJ3_checkFromIndexSize_8c36e 3 = .ok (.iload_n 1, 1) := dk_n (t := []) dk_g27 (by decide +kernel)
theorem dJ3_checkFromIndexSize_8c36e_4 : decode cJ3_checkFromIndexSize_8c36e 4 = .ok (.ior, 1) := dk_n (t := []) dk_g128 (by decide +kernel)
theorem dJ3_checkFromIndexSize_8c36e_5 : decode cJ3_checkFromIndexSize_8c36e 5 = .ok (.ifCond .lt 10, 3) := dk_s2 (y := 0) (z := 10) dk_g155 (by decide +kernel) rfl
theorem dJ3_checkFromIndexSize_8c36e_8 : decode cJ3_checkFromIndexSize_8c36e 8 = .ok (.iload_n 1, 1) := dk_n (t := []) dk_g27 (by decide +kernel)
theorem dJ3_checkFromIndexSize_8c36e_9 : decode cJ3_checkFromIndexSize_8c36e 9 = .ok (.iload_n 2, 1) := dk_n (t := []) dk_g28 (by decide +kernel)
theorem dJ3_checkFromIndexSize_8c36e_10 : decode cJ3_checkFromIndexSize_8c36e 10 = .ok (.iload_n 0, 1) := dk_n (t := []) dk_g26 (by decide +kernel)
theorem dJ3_checkFromIndexSize_8c36e_11 : decode cJ3_checkFromIndexSize_8c36e 11 = .ok (.isub, 1) := dk_n (t := []) dk_g100 (by decide +kernel)
theorem dJ3_checkFromIndexSize_8c36e_12 : decode cJ3_checkFromIndexSize_8c36e 12 = .ok (.if_icmp .le 11, 3) := dk_s2 (y := 0) (z := 11) dk_g164 (by decide +kernel) rfl
theorem dJ3_checkFromIndexSize_8c36e_15 : decode cJ3_checkFromIndexSize_8c36e 15 = .ok (.aload_n 3, 1) := dk_n (t := []) dk_g45 (by decide +kernel)
theorem dJ3_checkFromIndexSize_8c36e_16 : decode cJ3_checkFromIndexSize_8c36e 16 = .ok (.iload_n 0, 1) := dk_n (t := []) dk_g26 (by decide +kernel)
theorem dJ3_checkFromIndexSize_8c36e_17 : decode cJ3_checkFromIndexSize_8c36e 17 = .ok (.iload_n 1, 1) := dk_n (t := []) dk_g27 (by decide +kernel)
theorem dJ3_checkFromIndexSize_8c36e_18 : decode cJ3_checkFromIndexSize_8c36e 18 = .ok (.iload_n 2, 1) := dk_n (t := []) dk_g28 (by decide +kernel)
theorem dJ3_checkFromIndexSize_8c36e_19 : decode cJ3_checkFromIndexSize_8c36e 19 = .ok (.invokestatic 103, 3) := dk_u2 (y := 0) (z := 103) dk_g184 (by decide +kernel) rfl
theorem dJ3_checkFromIndexSize_8c36e_22 : decode cJ3_checkFromIndexSize_8c36e 22 = .ok (.athrow, 1) := dk_n (t := []) dk_g191 (by decide +kernel)
theorem dJ3_checkFromIndexSize_8c36e_23 : decode cJ3_checkFromIndexSize_8c36e 23 = .ok (.iload_n 0, 1) := dk_n (t := []) dk_g26 (by decide +kernel)
theorem dJ3_checkFromIndexSize_8c36e_24 : decode cJ3_checkFromIndexSize_8c36e 24 = .ok (.ireturn, 1) := dk_n (t := []) dk_g172 (by decide +kernel)
