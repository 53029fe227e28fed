def yL_field : MethodName := ⟨RL, "field", "(LMeetjoin;ILMeetjoinLaw$Out;)I"⟩
def yL_oneOf : MethodName := ⟨RL, "oneOf", "(LMeetjoin;IIILMeetjoinLaw$Out;)I"⟩
def yL_bound : MethodName := ⟨RL, "bound", "(LMeetjoin;IIIZLMeetjoinLaw$Out;)I"⟩
def yL_more : MethodName := ⟨RL, "more", "(LMeetjoin;IIIILMeetjoinLaw$Out;)I"⟩
def yL_unlike : MethodName := ⟨RL, "unlike", "(LMeetjoin;IIILMeetjoinLaw$Out;)I"⟩
def yL_preset : MethodName := ⟨RL, "preset", "(LMeetjoin;IIIILMeetjoinLaw$Out;)I"⟩
def yL_approve : MethodName := ⟨RL, "approve", "(LMeetjoin;IZLMeetjoinLaw$Out;)I"⟩
def yL_withdraw : MethodName := ⟨RL, "withdraw", "(LMeetjoin;IZLMeetjoinLaw$Out;)I"⟩
def yL_weight : MethodName := ⟨RL, "weight", "(LMeetjoin;IILMeetjoinLaw$Out;)I"⟩
def yL_commit : MethodName := ⟨RL, "commit", "(LMeetjoin;LMeetjoinLaw$Out;)I"⟩
def yL_wave : MethodName := ⟨RL, "wave", "(LMeetjoin;IILMeetjoinLaw$Out;)I"⟩
def yL_patch : MethodName := ⟨RL, "patch", "(LMeetjoin;IIILMeetjoinLaw$Out;)I"⟩
def yL_absorb : MethodName := ⟨RL, "absorb", "(LMeetjoin;IILMeetjoinLaw$Out;)I"⟩
def yL_ofField : MethodName := ⟨RL, "ofField", "(LMeetjoin;IILMeetjoinLaw$Out;)I"⟩
def yL_ofLine : MethodName := ⟨RL, "ofLine", "(LMeetjoin;IILMeetjoinLaw$Out;)I"⟩
def yL_ofMachine : MethodName := ⟨RL, "ofMachine", "(LMeetjoin;IILMeetjoinLaw$Out;)I"⟩
def yL_has : MethodName := ⟨RL, "has", "(LMeetjoin;IILMeetjoinLaw$Out;)I"⟩
def yL_ofCommit : MethodName := ⟨RL, "ofCommit", "(LMeetjoin;IILMeetjoinLaw$Out;)I"⟩
def yL_house : MethodName := ⟨RL, "house", "(LMeetjoin;ILMeetjoinLaw$Out;)I"⟩
def yL_value : MethodName := ⟨RL, "value", "(LMeetjoin;ILMeetjoinLaw$Out;)I"⟩
def yL_reason : MethodName := ⟨RL, "reason", "(LMeetjoin;ILMeetjoinLaw$Out;)I"⟩
def yL_met : MethodName := ⟨RL, "met", "(LMeetjoin;IILMeetjoinLaw$Out;)I"⟩
def yL_choices : MethodName := ⟨RL, "choices", "(LMeetjoin;IILMeetjoinLaw$Out;)I"⟩
def yL_isNarrower : MethodName := ⟨RL, "isNarrower", "(LMeetjoin;IILMeetjoinLaw$Out;)I"⟩
abbrev cL_law : ByteArray := code
def yL_law : MethodName := ⟨RL, "law", "([I)Z"⟩
theorem k_dL_field_0 : dk cL_field [(0, .aload_n 2, 1), (1, .aload_n 0, 1), (2, .iload_n 1, 1), (3, .invokevirtual 7, 3), (6, .i2l, 1), (7, .putfield 13, 3), (10, .goto 9, 3), (13, .astore_n 3, 1), (14, .iconst 1, 1), (15, .ireturn, 1), (16, .astore_n 3, 1), (17, .iconst 2, 1), (18, .ireturn, 1), (19, .iconst 0, 1), (20, .ireturn, 1)] = true := by decide +kernel
theorem dL_field_0 : decode cL_field 0 = .ok (.aload_n 2, 1) := dk_at k_dL_field_0 (i := 0) rfl
theorem dL_field_1 : decode cL_field 1 = .ok (.aload_n 0, 1) := dk_at k_dL_field_0 (i := 1) rfl
theorem dL_field_2 : decode cL_field 2 = .ok (.iload_n 1, 1) := dk_at k_dL_field_0 (i := 2) rfl
theorem dL_field_3 : decode cL_field 3 = .ok (.invokevirtual 7, 3) := dk_at k_dL_field_0 (i := 3) rfl
theorem dL_field_6 : decode cL_field 6 = .ok (.i2l, 1) := dk_at k_dL_field_0 (i := 4) rfl
theorem dL_field_7 : decode cL_field 7 = .ok (.putfield 13, 3) := dk_at k_dL_field_0 (i := 5) rfl
theorem dL_field_10 : decode cL_field 10 = .ok (.goto 9, 3) := dk_at k_dL_field_0 (i := 6) rfl
theorem dL_field_13 : decode cL_field 13 = .ok (.astore_n 3, 1) := dk_at k_dL_field_0 (i := 7) rfl
theorem dL_field_14 : decode cL_field 14 = .ok (.iconst 1, 1) := dk_at k_dL_field_0 (i := 8) rfl
theorem dL_field_15 : decode cL_field 15 = .ok (.ireturn, 1) := dk_at k_dL_field_0 (i := 9) rfl
theorem dL_field_16 : decode cL_field 16 = .ok (.astore_n 3, 1) := dk_at k_dL_field_0 (i := 10) rfl
theorem dL_field_17 : decode cL_field 17 = .ok (.iconst 2, 1) := dk_at k_dL_field_0 (i := 11) rfl
theorem dL_field_18 : decode cL_field 18 = .ok (.ireturn, 1) := dk_at k_dL_field_0 (i := 12) rfl
theorem dL_field_19 : decode cL_field 19 = .ok (.iconst 0, 1) := dk_at k_dL_field_0 (i := 13) rfl
theorem dL_field_20 : decode cL_field 20 = .ok (.ireturn, 1) := dk_at k_dL_field_0 (i := 14) rfl
theorem k_dL_oneOf_0 : dk cL_oneOf [(0, .aload 4, 2), (2, .aload_n 0, 1), (3, .iload_n 1, 1), (4, .iload_n 2, 1), (5, .iload_n 3, 1), (6, .invokevirtual 23, 3), (9, .i2l, 1), (10, .putfield 13, 3), (13, .goto 15, 3), (16, .astore 5, 2), (18, .iconst 1, 1), (19, .ireturn, 1), (20, .astore 5, 2), (22, .iconst 2, 1), (23, .ireturn, 1), (24, .astore 5, 2), (26, .iconst 3, 1), (27, .ireturn, 1), (28, .iconst 0, 1), (29, .ireturn, 1)] = true := by decide +kernel
theorem dL_oneOf_0 : decode cL_oneOf 0 = .ok (.aload 4, 2) := dk_at k_dL_oneOf_0 (i := 0) rfl
theorem dL_oneOf_2 : decode cL_oneOf 2 = .ok (.aload_n 0, 1) := dk_at k_dL_oneOf_0 (i := 1) rfl
theorem dL_oneOf_3 : decode cL_oneOf 3 = .ok (.iload_n 1, 1) := dk_at k_dL_oneOf_0 (i := 2) rfl
theorem dL_oneOf_4 : decode cL_oneOf 4 = .ok (.iload_n 2, 1) := dk_at k_dL_oneOf_0 (i := 3) rfl
theorem dL_oneOf_5 : decode cL_oneOf 5 = .ok (.iload_n 3, 1) := dk_at k_dL_oneOf_0 (i := 4) rfl
theorem dL_oneOf_6 : decode cL_oneOf 6 = .ok (.invokevirtual 23, 3) := dk_at k_dL_oneOf_0 (i := 5) rfl
theorem dL_oneOf_9 : decode cL_oneOf 9 = .ok (.i2l, 1) := dk_at k_dL_oneOf_0 (i := 6) rfl
theorem dL_oneOf_10 : decode cL_oneOf 10 = .ok (.putfield 13, 3) := dk_at k_dL_oneOf_0 (i := 7) rfl
theorem dL_oneOf_13 : decode cL_oneOf 13 = .ok (.goto 15, 3) := dk_at k_dL_oneOf_0 (i := 8) rfl
theorem dL_oneOf_16 : decode cL_oneOf 16 = .ok (.astore 5, 2) := dk_at k_dL_oneOf_0 (i := 9) rfl
theorem dL_oneOf_18 : decode cL_oneOf 18 = .ok (.iconst 1, 1) := dk_at k_dL_oneOf_0 (i := 10) rfl
theorem dL_oneOf_19 : decode cL_oneOf 19 = .ok (.ireturn, 1) := dk_at k_dL_oneOf_0 (i := 11) rfl
theorem dL_oneOf_20 : decode cL_oneOf 20 = .ok (.astore 5, 2) := dk_at k_dL_oneOf_0 (i := 12) rfl
theorem dL_oneOf_22 : decode cL_oneOf 22 = .ok (.iconst 2, 1) := dk_at k_dL_oneOf_0 (i := 13) rfl
theorem dL_oneOf_23 : decode cL_oneOf 23 = .ok (.ireturn, 1) := dk_at k_dL_oneOf_0 (i := 14) rfl
theorem dL_oneOf_24 : decode cL_oneOf 24 = .ok (.astore 5, 2) := dk_at k_dL_oneOf_0 (i := 15) rfl
theorem dL_oneOf_26 : decode cL_oneOf 26 = .ok (.iconst 3, 1) := dk_at k_dL_oneOf_0 (i := 16) rfl
theorem dL_oneOf_27 : decode cL_oneOf 27 = .ok (.ireturn, 1) := dk_at k_dL_oneOf_0 (i := 17) rfl
theorem dL_oneOf_28 : decode cL_oneOf 28 = .ok (.iconst 0, 1) := dk_at k_dL_oneOf_0 (i := 18) rfl
theorem dL_oneOf_29 : decode cL_oneOf 29 = .ok (.ireturn, 1) := dk_at k_dL_oneOf_0 (i := 19) rfl
theorem k_dL_bound_0 : dk cL_bound [(0, .aload 5, 2), (2, .aload_n 0, 1), (3, .iload_n 1, 1), (4, .iload_n 2, 1), (5, .iload_n 3, 1), (6, .iload 4, 2), (8, .invokevirtual 29, 3), (11, .i2l, 1), (12, .putfield 13, 3), (15, .goto 15, 3), (18, .astore 6, 2), (20, .iconst 1, 1), (21, .ireturn, 1), (22, .astore 6, 2), (24, .iconst 2, 1), (25, .ireturn, 1), (26, .astore 6, 2), (28, .iconst 3, 1), (29, .ireturn, 1), (30, .iconst 0, 1), (31, .ireturn, 1)] = true := by decide +kernel
theorem dL_bound_0 : decode cL_bound 0 = .ok (.aload 5, 2) := dk_at k_dL_bound_0 (i := 0) rfl
theorem dL_bound_2 : decode cL_bound 2 = .ok (.aload_n 0, 1) := dk_at k_dL_bound_0 (i := 1) rfl
theorem dL_bound_3 : decode cL_bound 3 = .ok (.iload_n 1, 1) := dk_at k_dL_bound_0 (i := 2) rfl
theorem dL_bound_4 : decode cL_bound 4 = .ok (.iload_n 2, 1) := dk_at k_dL_bound_0 (i := 3) rfl
theorem dL_bound_5 : decode cL_bound 5 = .ok (.iload_n 3, 1) := dk_at k_dL_bound_0 (i := 4) rfl
theorem dL_bound_6 : decode cL_bound 6 = .ok (.iload 4, 2) := dk_at k_dL_bound_0 (i := 5) rfl
theorem dL_bound_8 : decode cL_bound 8 = .ok (.invokevirtual 29, 3) := dk_at k_dL_bound_0 (i := 6) rfl
theorem dL_bound_11 : decode cL_bound 11 = .ok (.i2l, 1) := dk_at k_dL_bound_0 (i := 7) rfl
theorem dL_bound_12 : decode cL_bound 12 = .ok (.putfield 13, 3) := dk_at k_dL_bound_0 (i := 8) rfl
theorem dL_bound_15 : decode cL_bound 15 = .ok (.goto 15, 3) := dk_at k_dL_bound_0 (i := 9) rfl
theorem dL_bound_18 : decode cL_bound 18 = .ok (.astore 6, 2) := dk_at k_dL_bound_0 (i := 10) rfl
theorem dL_bound_20 : decode cL_bound 20 = .ok (.iconst 1, 1) := dk_at k_dL_bound_0 (i := 11) rfl
theorem dL_bound_21 : decode cL_bound 21 = .ok (.ireturn, 1) := dk_at k_dL_bound_0 (i := 12) rfl
theorem dL_bound_22 : decode cL_bound 22 = .ok (.astore 6, 2) := dk_at k_dL_bound_0 (i := 13) rfl
theorem dL_bound_24 : decode cL_bound 24 = .ok (.iconst 2, 1) := dk_at k_dL_bound_0 (i := 14) rfl
theorem dL_bound_25 : decode cL_bound 25 = .ok (.ireturn, 1) := dk_at k_dL_bound_0 (i := 15) rfl
theorem dL_bound_26 : decode cL_bound 26 = .ok (.astore 6, 2) := dk_at k_dL_bound_0 (i := 16) rfl
theorem dL_bound_28 : decode cL_bound 28 = .ok (.iconst 3, 1) := dk_at k_dL_bound_0 (i := 17) rfl
theorem dL_bound_29 : decode cL_bound 29 = .ok (.ireturn, 1) := dk_at k_dL_bound_0 (i := 18) rfl
theorem dL_bound_30 : decode cL_bound 30 = .ok (.iconst 0, 1) := dk_at k_dL_bound_0 (i := 19) rfl
theorem dL_bound_31 : decode cL_bound 31 = .ok (.ireturn, 1) := dk_at k_dL_bound_0 (i := 20) rfl
theorem k_dL_more_0 : dk cL_more [(0, .aload 5, 2), (2, .aload_n 0, 1), (3, .iload_n 1, 1), (4, .iload_n 2, 1), (5, .iload_n 3, 1), (6, .iload 4, 2), (8, .invokevirtual 33, 3), (11, .i2l, 1), (12, .putfield 13, 3), (15, .goto 15, 3), (18, .astore 6, 2), (20, .iconst 1, 1), (21, .ireturn, 1), (22, .astore 6, 2), (24, .iconst 2, 1), (25, .ireturn, 1), (26, .astore 6, 2), (28, .iconst 3, 1), (29, .ireturn, 1), (30, .iconst 0, 1), (31, .ireturn, 1)] = true := by decide +kernel
theorem dL_more_0 : decode cL_more 0 = .ok (.aload 5, 2) := dk_at k_dL_more_0 (i := 0) rfl
theorem dL_more_2 : decode cL_more 2 = .ok (.aload_n 0, 1) := dk_at k_dL_more_0 (i := 1) rfl
theorem dL_more_3 : decode cL_more 3 = .ok (.iload_n 1, 1) := dk_at k_dL_more_0 (i := 2) rfl
theorem dL_more_4 : decode cL_more 4 = .ok (.iload_n 2, 1) := dk_at k_dL_more_0 (i := 3) rfl
theorem dL_more_5 : decode cL_more 5 = .ok (.iload_n 3, 1) := dk_at k_dL_more_0 (i := 4) rfl
theorem dL_more_6 : decode cL_more 6 = .ok (.iload 4, 2) := dk_at k_dL_more_0 (i := 5) rfl
theorem dL_more_8 : decode cL_more 8 = .ok (.invokevirtual 33, 3) := dk_at k_dL_more_0 (i := 6) rfl
theorem dL_more_11 : decode cL_more 11 = .ok (.i2l, 1) := dk_at k_dL_more_0 (i := 7) rfl
theorem dL_more_12 : decode cL_more 12 = .ok (.putfield 13, 3) := dk_at k_dL_more_0 (i := 8) rfl
theorem dL_more_15 : decode cL_more 15 = .ok (.goto 15, 3) := dk_at k_dL_more_0 (i := 9) rfl
theorem dL_more_18 : decode cL_more 18 = .ok (.astore 6, 2) := dk_at k_dL_more_0 (i := 10) rfl
theorem dL_more_20 : decode cL_more 20 = .ok (.iconst 1, 1) := dk_at k_dL_more_0 (i := 11) rfl
theorem dL_more_21 : decode cL_more 21 = .ok (.ireturn, 1) := dk_at k_dL_more_0 (i := 12) rfl
theorem dL_more_22 : decode cL_more 22 = .ok (.astore 6, 2) := dk_at k_dL_more_0 (i := 13) rfl
theorem dL_more_24 : decode cL_more 24 = .ok (.iconst 2, 1) := dk_at k_dL_more_0 (i := 14) rfl
theorem dL_more_25 : decode cL_more 25 = .ok (.ireturn, 1) := dk_at k_dL_more_0 (i := 15) rfl
theorem dL_more_26 : decode cL_more 26 = .ok (.astore 6, 2) := dk_at k_dL_more_0 (i := 16) rfl
theorem dL_more_28 : decode cL_more 28 = .ok (.iconst 3, 1) := dk_at k_dL_more_0 (i := 17) rfl
theorem dL_more_29 : decode cL_more 29 = .ok (.ireturn, 1) := dk_at k_dL_more_0 (i := 18) rfl
theorem dL_more_30 : decode cL_more 30 = .ok (.iconst 0, 1) := dk_at k_dL_more_0 (i := 19) rfl
theorem dL_more_31 : decode cL_more 31 = .ok (.ireturn, 1) := dk_at k_dL_more_0 (i := 20) rfl
theorem k_dL_unlike_0 : dk cL_unlike [(0, .aload 4, 2), (2, .aload_n 0, 1), (3, .iload_n 1, 1), (4, .iload_n 2, 1), (5, .iload_n 3, 1), (6, .invokevirtual 37, 3), (9, .i2l, 1), (10, .putfield 13, 3), (13, .goto 15, 3), (16, .astore 5, 2), (18, .iconst 1, 1), (19, .ireturn, 1), (20, .astore 5, 2), (22, .iconst 2, 1), (23, .ireturn, 1), (24, .astore 5, 2), (26, .iconst 3, 1), (27, .ireturn, 1), (28, .iconst 0, 1), (29, .ireturn, 1)] = true := by decide +kernel
theorem dL_unlike_0 : decode cL_unlike 0 = .ok (.aload 4, 2) := dk_at k_dL_unlike_0 (i := 0) rfl
theorem dL_unlike_2 : decode cL_unlike 2 = .ok (.aload_n 0, 1) := dk_at k_dL_unlike_0 (i := 1) rfl
theorem dL_unlike_3 : decode cL_unlike 3 = .ok (.iload_n 1, 1) := dk_at k_dL_unlike_0 (i := 2) rfl
theorem dL_unlike_4 : decode cL_unlike 4 = .ok (.iload_n 2, 1) := dk_at k_dL_unlike_0 (i := 3) rfl
theorem dL_unlike_5 : decode cL_unlike 5 = .ok (.iload_n 3, 1) := dk_at k_dL_unlike_0 (i := 4) rfl
theorem dL_unlike_6 : decode cL_unlike 6 = .ok (.invokevirtual 37, 3) := dk_at k_dL_unlike_0 (i := 5) rfl
theorem dL_unlike_9 : decode cL_unlike 9 = .ok (.i2l, 1) := dk_at k_dL_unlike_0 (i := 6) rfl
theorem dL_unlike_10 : decode cL_unlike 10 = .ok (.putfield 13, 3) := dk_at k_dL_unlike_0 (i := 7) rfl
theorem dL_unlike_13 : decode cL_unlike 13 = .ok (.goto 15, 3) := dk_at k_dL_unlike_0 (i := 8) rfl
theorem dL_unlike_16 : decode cL_unlike 16 = .ok (.astore 5, 2) := dk_at k_dL_unlike_0 (i := 9) rfl
theorem dL_unlike_18 : decode cL_unlike 18 = .ok (.iconst 1, 1) := dk_at k_dL_unlike_0 (i := 10) rfl
theorem dL_unlike_19 : decode cL_unlike 19 = .ok (.ireturn, 1) := dk_at k_dL_unlike_0 (i := 11) rfl
theorem dL_unlike_20 : decode cL_unlike 20 = .ok (.astore 5, 2) := dk_at k_dL_unlike_0 (i := 12) rfl
theorem dL_unlike_22 : decode cL_unlike 22 = .ok (.iconst 2, 1) := dk_at k_dL_unlike_0 (i := 13) rfl
theorem dL_unlike_23 : decode cL_unlike 23 = .ok (.ireturn, 1) := dk_at k_dL_unlike_0 (i := 14) rfl
theorem dL_unlike_24 : decode cL_unlike 24 = .ok (.astore 5, 2) := dk_at k_dL_unlike_0 (i := 15) rfl
theorem dL_unlike_26 : decode cL_unlike 26 = .ok (.iconst 3, 1) := dk_at k_dL_unlike_0 (i := 16) rfl
theorem dL_unlike_27 : decode cL_unlike 27 = .ok (.ireturn, 1) := dk_at k_dL_unlike_0 (i := 17) rfl
theorem dL_unlike_28 : decode cL_unlike 28 = .ok (.iconst 0, 1) := dk_at k_dL_unlike_0 (i := 18) rfl
theorem dL_unlike_29 : decode cL_unlike 29 = .ok (.ireturn, 1) := dk_at k_dL_unlike_0 (i := 19) rfl
theorem k_dL_preset_0 : dk cL_preset [(0, .aload 5, 2), (2, .aload_n 0, 1), (3, .iload_n 1, 1), (4, .iload_n 2, 1), (5, .iload_n 3, 1), (6, .iload 4, 2), (8, .invokevirtual 40, 3), (11, .i2l, 1), (12, .putfield 13, 3), (15, .goto 15, 3), (18, .astore 6, 2), (20, .iconst 1, 1), (21, .ireturn, 1), (22, .astore 6, 2), (24, .iconst 2, 1), (25, .ireturn, 1), (26, .astore 6, 2), (28, .iconst 3, 1), (29, .ireturn, 1), (30, .iconst 0, 1), (31, .ireturn, 1)] = true := by decide +kernel
theorem dL_preset_0 : decode cL_preset 0 = .ok (.aload 5, 2) := dk_at k_dL_preset_0 (i := 0) rfl
theorem dL_preset_2 : decode cL_preset 2 = .ok (.aload_n 0, 1) := dk_at k_dL_preset_0 (i := 1) rfl
theorem dL_preset_3 : decode cL_preset 3 = .ok (.iload_n 1, 1) := dk_at k_dL_preset_0 (i := 2) rfl
theorem dL_preset_4 : decode cL_preset 4 = .ok (.iload_n 2, 1) := dk_at k_dL_preset_0 (i := 3) rfl
theorem dL_preset_5 : decode cL_preset 5 = .ok (.iload_n 3, 1) := dk_at k_dL_preset_0 (i := 4) rfl
theorem dL_preset_6 : decode cL_preset 6 = .ok (.iload 4, 2) := dk_at k_dL_preset_0 (i := 5) rfl
theorem dL_preset_8 : decode cL_preset 8 = .ok (.invokevirtual 40, 3) := dk_at k_dL_preset_0 (i := 6) rfl
theorem dL_preset_11 : decode cL_preset 11 = .ok (.i2l, 1) := dk_at k_dL_preset_0 (i := 7) rfl
theorem dL_preset_12 : decode cL_preset 12 = .ok (.putfield 13, 3) := dk_at k_dL_preset_0 (i := 8) rfl
theorem dL_preset_15 : decode cL_preset 15 = .ok (.goto 15, 3) := dk_at k_dL_preset_0 (i := 9) rfl
theorem dL_preset_18 : decode cL_preset 18 = .ok (.astore 6, 2) := dk_at k_dL_preset_0 (i := 10) rfl
theorem dL_preset_20 : decode cL_preset 20 = .ok (.iconst 1, 1) := dk_at k_dL_preset_0 (i := 11) rfl
theorem dL_preset_21 : decode cL_preset 21 = .ok (.ireturn, 1) := dk_at k_dL_preset_0 (i := 12) rfl
theorem dL_preset_22 : decode cL_preset 22 = .ok (.astore 6, 2) := dk_at k_dL_preset_0 (i := 13) rfl
theorem dL_preset_24 : decode cL_preset 24 = .ok (.iconst 2, 1) := dk_at k_dL_preset_0 (i := 14) rfl
theorem dL_preset_25 : decode cL_preset 25 = .ok (.ireturn, 1) := dk_at k_dL_preset_0 (i := 15) rfl
theorem dL_preset_26 : decode cL_preset 26 = .ok (.astore 6, 2) := dk_at k_dL_preset_0 (i := 16) rfl
theorem dL_preset_28 : decode cL_preset 28 = .ok (.iconst 3, 1) := dk_at k_dL_preset_0 (i := 17) rfl
theorem dL_preset_29 : decode cL_preset 29 = .ok (.ireturn, 1) := dk_at k_dL_preset_0 (i := 18) rfl
theorem dL_preset_30 : decode cL_preset 30 = .ok (.iconst 0, 1) := dk_at k_dL_preset_0 (i := 19) rfl
theorem dL_preset_31 : decode cL_preset 31 = .ok (.ireturn, 1) := dk_at k_dL_preset_0 (i := 20) rfl
theorem k_dL_approve_0 : dk cL_approve [(0, .aload_n 3, 1), (1, .aload_n 0, 1), (2, .iload_n 1, 1), (3, .iload_n 2, 1), (4, .invokevirtual 43, 3), (7, .ifCond .eq 7, 3), (10, .lconst 1, 1), (11, .goto 4, 3), (14, .lconst 0, 1), (15, .putfield 13, 3), (18, .goto 7, 3), (21, .astore 4, 2), (23, .iconst 1, 1), (24, .ireturn, 1), (25, .iconst 0, 1), (26, .ireturn, 1)] = true := by decide +kernel
theorem dL_approve_0 : decode cL_approve 0 = .ok (.aload_n 3, 1) := dk_at k_dL_approve_0 (i := 0) rfl
theorem dL_approve_1 : decode cL_approve 1 = .ok (.aload_n 0, 1) := dk_at k_dL_approve_0 (i := 1) rfl
theorem dL_approve_2 : decode cL_approve 2 = .ok (.iload_n 1, 1) := dk_at k_dL_approve_0 (i := 2) rfl
theorem dL_approve_3 : decode cL_approve 3 = .ok (.iload_n 2, 1) := dk_at k_dL_approve_0 (i := 3) rfl
theorem dL_approve_4 : decode cL_approve 4 = .ok (.invokevirtual 43, 3) := dk_at k_dL_approve_0 (i := 4) rfl
theorem dL_approve_7 : decode cL_approve 7 = .ok (.ifCond .eq 7, 3) := dk_at k_dL_approve_0 (i := 5) rfl
theorem dL_approve_10 : decode cL_approve 10 = .ok (.lconst 1, 1) := dk_at k_dL_approve_0 (i := 6) rfl
theorem dL_approve_11 : decode cL_approve 11 = .ok (.goto 4, 3) := dk_at k_dL_approve_0 (i := 7) rfl
theorem dL_approve_14 : decode cL_approve 14 = .ok (.lconst 0, 1) := dk_at k_dL_approve_0 (i := 8) rfl
theorem dL_approve_15 : decode cL_approve 15 = .ok (.putfield 13, 3) := dk_at k_dL_approve_0 (i := 9) rfl
theorem dL_approve_18 : decode cL_approve 18 = .ok (.goto 7, 3) := dk_at k_dL_approve_0 (i := 10) rfl
theorem dL_approve_21 : decode cL_approve 21 = .ok (.astore 4, 2) := dk_at k_dL_approve_0 (i := 11) rfl
theorem dL_approve_23 : decode cL_approve 23 = .ok (.iconst 1, 1) := dk_at k_dL_approve_0 (i := 12) rfl
theorem dL_approve_24 : decode cL_approve 24 = .ok (.ireturn, 1) := dk_at k_dL_approve_0 (i := 13) rfl
theorem dL_approve_25 : decode cL_approve 25 = .ok (.iconst 0, 1) := dk_at k_dL_approve_0 (i := 14) rfl
theorem dL_approve_26 : decode cL_approve 26 = .ok (.ireturn, 1) := dk_at k_dL_approve_0 (i := 15) rfl
theorem k_dL_withdraw_0 : dk cL_withdraw [(0, .aload_n 3, 1), (1, .aload_n 0, 1), (2, .iload_n 1, 1), (3, .iload_n 2, 1), (4, .invokevirtual 47, 3), (7, .ifCond .eq 7, 3), (10, .lconst 1, 1), (11, .goto 4, 3), (14, .lconst 0, 1), (15, .putfield 13, 3), (18, .goto 7, 3), (21, .astore 4, 2), (23, .iconst 1, 1), (24, .ireturn, 1), (25, .iconst 0, 1), (26, .ireturn, 1)] = true := by decide +kernel
theorem dL_withdraw_0 : decode cL_withdraw 0 = .ok (.aload_n 3, 1) := dk_at k_dL_withdraw_0 (i := 0) rfl
theorem dL_withdraw_1 : decode cL_withdraw 1 = .ok (.aload_n 0, 1) := dk_at k_dL_withdraw_0 (i := 1) rfl
theorem dL_withdraw_2 : decode cL_withdraw 2 = .ok (.iload_n 1, 1) := dk_at k_dL_withdraw_0 (i := 2) rfl
theorem dL_withdraw_3 : decode cL_withdraw 3 = .ok (.iload_n 2, 1) := dk_at k_dL_withdraw_0 (i := 3) rfl
theorem dL_withdraw_4 : decode cL_withdraw 4 = .ok (.invokevirtual 47, 3) := dk_at k_dL_withdraw_0 (i := 4) rfl
theorem dL_withdraw_7 : decode cL_withdraw 7 = .ok (.ifCond .eq 7, 3) := dk_at k_dL_withdraw_0 (i := 5) rfl
theorem dL_withdraw_10 : decode cL_withdraw 10 = .ok (.lconst 1, 1) := dk_at k_dL_withdraw_0 (i := 6) rfl
theorem dL_withdraw_11 : decode cL_withdraw 11 = .ok (.goto 4, 3) := dk_at k_dL_withdraw_0 (i := 7) rfl
theorem dL_withdraw_14 : decode cL_withdraw 14 = .ok (.lconst 0, 1) := dk_at k_dL_withdraw_0 (i := 8) rfl
theorem dL_withdraw_15 : decode cL_withdraw 15 = .ok (.putfield 13, 3) := dk_at k_dL_withdraw_0 (i := 9) rfl
theorem dL_withdraw_18 : decode cL_withdraw 18 = .ok (.goto 7, 3) := dk_at k_dL_withdraw_0 (i := 10) rfl
theorem dL_withdraw_21 : decode cL_withdraw 21 = .ok (.astore 4, 2) := dk_at k_dL_withdraw_0 (i := 11) rfl
theorem dL_withdraw_23 : decode cL_withdraw 23 = .ok (.iconst 1, 1) := dk_at k_dL_withdraw_0 (i := 12) rfl
theorem dL_withdraw_24 : decode cL_withdraw 24 = .ok (.ireturn, 1) := dk_at k_dL_withdraw_0 (i := 13) rfl
theorem dL_withdraw_25 : decode cL_withdraw 25 = .ok (.iconst 0, 1) := dk_at k_dL_withdraw_0 (i := 14) rfl
theorem dL_withdraw_26 : decode cL_withdraw 26 = .ok (.ireturn, 1) := dk_at k_dL_withdraw_0 (i := 15) rfl
theorem k_dL_weight_0 : dk cL_weight [(0, .aload_n 3, 1), (1, .aload_n 0, 1), (2, .iload_n 1, 1), (3, .iload_n 2, 1), (4, .invokevirtual 50, 3), (7, .i2l, 1), (8, .putfield 13, 3), (11, .goto 11, 3), (14, .astore 4, 2), (16, .iconst 1, 1), (17, .ireturn, 1), (18, .astore 4, 2), (20, .iconst 2, 1), (21, .ireturn, 1), (22, .iconst 0, 1), (23, .ireturn, 1)] = true := by decide +kernel
theorem dL_weight_0 : decode cL_weight 0 = .ok (.aload_n 3, 1) := dk_at k_dL_weight_0 (i := 0) rfl
theorem dL_weight_1 : decode cL_weight 1 = .ok (.aload_n 0, 1) := dk_at k_dL_weight_0 (i := 1) rfl
theorem dL_weight_2 : decode cL_weight 2 = .ok (.iload_n 1, 1) := dk_at k_dL_weight_0 (i := 2) rfl
theorem dL_weight_3 : decode cL_weight 3 = .ok (.iload_n 2, 1) := dk_at k_dL_weight_0 (i := 3) rfl
theorem dL_weight_4 : decode cL_weight 4 = .ok (.invokevirtual 50, 3) := dk_at k_dL_weight_0 (i := 4) rfl
theorem dL_weight_7 : decode cL_weight 7 = .ok (.i2l, 1) := dk_at k_dL_weight_0 (i := 5) rfl
theorem dL_weight_8 : decode cL_weight 8 = .ok (.putfield 13, 3) := dk_at k_dL_weight_0 (i := 6) rfl
theorem dL_weight_11 : decode cL_weight 11 = .ok (.goto 11, 3) := dk_at k_dL_weight_0 (i := 7) rfl
theorem dL_weight_14 : decode cL_weight 14 = .ok (.astore 4, 2) := dk_at k_dL_weight_0 (i := 8) rfl
theorem dL_weight_16 : decode cL_weight 16 = .ok (.iconst 1, 1) := dk_at k_dL_weight_0 (i := 9) rfl
theorem dL_weight_17 : decode cL_weight 17 = .ok (.ireturn, 1) := dk_at k_dL_weight_0 (i := 10) rfl
theorem dL_weight_18 : decode cL_weight 18 = .ok (.astore 4, 2) := dk_at k_dL_weight_0 (i := 11) rfl
theorem dL_weight_20 : decode cL_weight 20 = .ok (.iconst 2, 1) := dk_at k_dL_weight_0 (i := 12) rfl
theorem dL_weight_21 : decode cL_weight 21 = .ok (.ireturn, 1) := dk_at k_dL_weight_0 (i := 13) rfl
theorem dL_weight_22 : decode cL_weight 22 = .ok (.iconst 0, 1) := dk_at k_dL_weight_0 (i := 14) rfl
theorem dL_weight_23 : decode cL_weight 23 = .ok (.ireturn, 1) := dk_at k_dL_weight_0 (i := 15) rfl
theorem k_dL_commit_0 : dk cL_commit [(0, .aload_n 1, 1), (1, .aload_n 0, 1), (2, .invokevirtual 54, 3), (5, .i2l, 1), (6, .putfield 13, 3), (9, .goto 6, 3), (12, .astore_n 2, 1), (13, .iconst 1, 1), (14, .ireturn, 1), (15, .iconst 0, 1), (16, .ireturn, 1)] = true := by decide +kernel
theorem dL_commit_0 : decode cL_commit 0 = .ok (.aload_n 1, 1) := dk_at k_dL_commit_0 (i := 0) rfl
theorem dL_commit_1 : decode cL_commit 1 = .ok (.aload_n 0, 1) := dk_at k_dL_commit_0 (i := 1) rfl
theorem dL_commit_2 : decode cL_commit 2 = .ok (.invokevirtual 54, 3) := dk_at k_dL_commit_0 (i := 2) rfl
theorem dL_commit_5 : decode cL_commit 5 = .ok (.i2l, 1) := dk_at k_dL_commit_0 (i := 3) rfl
theorem dL_commit_6 : decode cL_commit 6 = .ok (.putfield 13, 3) := dk_at k_dL_commit_0 (i := 4) rfl
theorem dL_commit_9 : decode cL_commit 9 = .ok (.goto 6, 3) := dk_at k_dL_commit_0 (i := 5) rfl
theorem dL_commit_12 : decode cL_commit 12 = .ok (.astore_n 2, 1) := dk_at k_dL_commit_0 (i := 6) rfl
theorem dL_commit_13 : decode cL_commit 13 = .ok (.iconst 1, 1) := dk_at k_dL_commit_0 (i := 7) rfl
theorem dL_commit_14 : decode cL_commit 14 = .ok (.ireturn, 1) := dk_at k_dL_commit_0 (i := 8) rfl
theorem dL_commit_15 : decode cL_commit 15 = .ok (.iconst 0, 1) := dk_at k_dL_commit_0 (i := 9) rfl
theorem dL_commit_16 : decode cL_commit 16 = .ok (.ireturn, 1) := dk_at k_dL_commit_0 (i := 10) rfl
theorem k_dL_wave_0 : dk cL_wave [(0, .aload_n 3, 1), (1, .aload_n 0, 1), (2, .iload_n 1, 1), (3, .iload_n 2, 1), (4, .invokevirtual 58, 3), (7, .i2l, 1), (8, .putfield 13, 3), (11, .goto 11, 3), (14, .astore 4, 2), (16, .iconst 1, 1), (17, .ireturn, 1), (18, .astore 4, 2), (20, .iconst 2, 1), (21, .ireturn, 1), (22, .iconst 0, 1), (23, .ireturn, 1)] = true := by decide +kernel
theorem dL_wave_0 : decode cL_wave 0 = .ok (.aload_n 3, 1) := dk_at k_dL_wave_0 (i := 0) rfl
theorem dL_wave_1 : decode cL_wave 1 = .ok (.aload_n 0, 1) := dk_at k_dL_wave_0 (i := 1) rfl
theorem dL_wave_2 : decode cL_wave 2 = .ok (.iload_n 1, 1) := dk_at k_dL_wave_0 (i := 2) rfl
theorem dL_wave_3 : decode cL_wave 3 = .ok (.iload_n 2, 1) := dk_at k_dL_wave_0 (i := 3) rfl
theorem dL_wave_4 : decode cL_wave 4 = .ok (.invokevirtual 58, 3) := dk_at k_dL_wave_0 (i := 4) rfl
theorem dL_wave_7 : decode cL_wave 7 = .ok (.i2l, 1) := dk_at k_dL_wave_0 (i := 5) rfl
theorem dL_wave_8 : decode cL_wave 8 = .ok (.putfield 13, 3) := dk_at k_dL_wave_0 (i := 6) rfl
theorem dL_wave_11 : decode cL_wave 11 = .ok (.goto 11, 3) := dk_at k_dL_wave_0 (i := 7) rfl
theorem dL_wave_14 : decode cL_wave 14 = .ok (.astore 4, 2) := dk_at k_dL_wave_0 (i := 8) rfl
theorem dL_wave_16 : decode cL_wave 16 = .ok (.iconst 1, 1) := dk_at k_dL_wave_0 (i := 9) rfl
theorem dL_wave_17 : decode cL_wave 17 = .ok (.ireturn, 1) := dk_at k_dL_wave_0 (i := 10) rfl
theorem dL_wave_18 : decode cL_wave 18 = .ok (.astore 4, 2) := dk_at k_dL_wave_0 (i := 11) rfl
theorem dL_wave_20 : decode cL_wave 20 = .ok (.iconst 2, 1) := dk_at k_dL_wave_0 (i := 12) rfl
theorem dL_wave_21 : decode cL_wave 21 = .ok (.ireturn, 1) := dk_at k_dL_wave_0 (i := 13) rfl
theorem dL_wave_22 : decode cL_wave 22 = .ok (.iconst 0, 1) := dk_at k_dL_wave_0 (i := 14) rfl
theorem dL_wave_23 : decode cL_wave 23 = .ok (.ireturn, 1) := dk_at k_dL_wave_0 (i := 15) rfl
theorem k_dL_patch_0 : dk cL_patch [(0, .aload 4, 2), (2, .aload_n 0, 1), (3, .iload_n 1, 1), (4, .iload_n 2, 1), (5, .iload_n 3, 1), (6, .invokevirtual 61, 3), (9, .i2l, 1), (10, .putfield 13, 3), (13, .goto 11, 3), (16, .astore 5, 2), (18, .iconst 1, 1), (19, .ireturn, 1), (20, .astore 5, 2), (22, .iconst 2, 1), (23, .ireturn, 1), (24, .iconst 0, 1), (25, .ireturn, 1)] = true := by decide +kernel
theorem dL_patch_0 : decode cL_patch 0 = .ok (.aload 4, 2) := dk_at k_dL_patch_0 (i := 0) rfl
theorem dL_patch_2 : decode cL_patch 2 = .ok (.aload_n 0, 1) := dk_at k_dL_patch_0 (i := 1) rfl
theorem dL_patch_3 : decode cL_patch 3 = .ok (.iload_n 1, 1) := dk_at k_dL_patch_0 (i := 2) rfl
theorem dL_patch_4 : decode cL_patch 4 = .ok (.iload_n 2, 1) := dk_at k_dL_patch_0 (i := 3) rfl
theorem dL_patch_5 : decode cL_patch 5 = .ok (.iload_n 3, 1) := dk_at k_dL_patch_0 (i := 4) rfl
theorem dL_patch_6 : decode cL_patch 6 = .ok (.invokevirtual 61, 3) := dk_at k_dL_patch_0 (i := 5) rfl
theorem dL_patch_9 : decode cL_patch 9 = .ok (.i2l, 1) := dk_at k_dL_patch_0 (i := 6) rfl
theorem dL_patch_10 : decode cL_patch 10 = .ok (.putfield 13, 3) := dk_at k_dL_patch_0 (i := 7) rfl
theorem dL_patch_13 : decode cL_patch 13 = .ok (.goto 11, 3) := dk_at k_dL_patch_0 (i := 8) rfl
theorem dL_patch_16 : decode cL_patch 16 = .ok (.astore 5, 2) := dk_at k_dL_patch_0 (i := 9) rfl
theorem dL_patch_18 : decode cL_patch 18 = .ok (.iconst 1, 1) := dk_at k_dL_patch_0 (i := 10) rfl
theorem dL_patch_19 : decode cL_patch 19 = .ok (.ireturn, 1) := dk_at k_dL_patch_0 (i := 11) rfl
theorem dL_patch_20 : decode cL_patch 20 = .ok (.astore 5, 2) := dk_at k_dL_patch_0 (i := 12) rfl
theorem dL_patch_22 : decode cL_patch 22 = .ok (.iconst 2, 1) := dk_at k_dL_patch_0 (i := 13) rfl
theorem dL_patch_23 : decode cL_patch 23 = .ok (.ireturn, 1) := dk_at k_dL_patch_0 (i := 14) rfl
theorem dL_patch_24 : decode cL_patch 24 = .ok (.iconst 0, 1) := dk_at k_dL_patch_0 (i := 15) rfl
theorem dL_patch_25 : decode cL_patch 25 = .ok (.ireturn, 1) := dk_at k_dL_patch_0 (i := 16) rfl
theorem k_dL_absorb_0 : dk cL_absorb [(0, .aload_n 3, 1), (1, .aload_n 0, 1), (2, .iload_n 1, 1), (3, .iload_n 2, 1), (4, .invokevirtual 64, 3), (7, .i2l, 1), (8, .putfield 13, 3), (11, .goto 11, 3), (14, .astore 4, 2), (16, .iconst 1, 1), (17, .ireturn, 1), (18, .astore 4, 2), (20, .iconst 2, 1), (21, .ireturn, 1), (22, .iconst 0, 1), (23, .ireturn, 1)] = true := by decide +kernel
theorem dL_absorb_0 : decode cL_absorb 0 = .ok (.aload_n 3, 1) := dk_at k_dL_absorb_0 (i := 0) rfl
theorem dL_absorb_1 : decode cL_absorb 1 = .ok (.aload_n 0, 1) := dk_at k_dL_absorb_0 (i := 1) rfl
theorem dL_absorb_2 : decode cL_absorb 2 = .ok (.iload_n 1, 1) := dk_at k_dL_absorb_0 (i := 2) rfl
theorem dL_absorb_3 : decode cL_absorb 3 = .ok (.iload_n 2, 1) := dk_at k_dL_absorb_0 (i := 3) rfl
theorem dL_absorb_4 : decode cL_absorb 4 = .ok (.invokevirtual 64, 3) := dk_at k_dL_absorb_0 (i := 4) rfl
theorem dL_absorb_7 : decode cL_absorb 7 = .ok (.i2l, 1) := dk_at k_dL_absorb_0 (i := 5) rfl
theorem dL_absorb_8 : decode cL_absorb 8 = .ok (.putfield 13, 3) := dk_at k_dL_absorb_0 (i := 6) rfl
theorem dL_absorb_11 : decode cL_absorb 11 = .ok (.goto 11, 3) := dk_at k_dL_absorb_0 (i := 7) rfl
theorem dL_absorb_14 : decode cL_absorb 14 = .ok (.astore 4, 2) := dk_at k_dL_absorb_0 (i := 8) rfl
theorem dL_absorb_16 : decode cL_absorb 16 = .ok (.iconst 1, 1) := dk_at k_dL_absorb_0 (i := 9) rfl
theorem dL_absorb_17 : decode cL_absorb 17 = .ok (.ireturn, 1) := dk_at k_dL_absorb_0 (i := 10) rfl
theorem dL_absorb_18 : decode cL_absorb 18 = .ok (.astore 4, 2) := dk_at k_dL_absorb_0 (i := 11) rfl
theorem dL_absorb_20 : decode cL_absorb 20 = .ok (.iconst 2, 1) := dk_at k_dL_absorb_0 (i := 12) rfl
theorem dL_absorb_21 : decode cL_absorb 21 = .ok (.ireturn, 1) := dk_at k_dL_absorb_0 (i := 13) rfl
theorem dL_absorb_22 : decode cL_absorb 22 = .ok (.iconst 0, 1) := dk_at k_dL_absorb_0 (i := 14) rfl
theorem dL_absorb_23 : decode cL_absorb 23 = .ok (.ireturn, 1) := dk_at k_dL_absorb_0 (i := 15) rfl
theorem k_dL_ofField_0 : dk cL_ofField [(0, .aload_n 3, 1), (1, .aload_n 0, 1), (2, .iload_n 1, 1), (3, .iload_n 2, 1), (4, .invokevirtual 67, 3), (7, .i2l, 1), (8, .putfield 13, 3), (11, .goto 11, 3), (14, .astore 4, 2), (16, .iconst 1, 1), (17, .ireturn, 1), (18, .astore 4, 2), (20, .iconst 2, 1), (21, .ireturn, 1), (22, .iconst 0, 1), (23, .ireturn, 1)] = true := by decide +kernel
theorem dL_ofField_0 : decode cL_ofField 0 = .ok (.aload_n 3, 1) := dk_at k_dL_ofField_0 (i := 0) rfl
theorem dL_ofField_1 : decode cL_ofField 1 = .ok (.aload_n 0, 1) := dk_at k_dL_ofField_0 (i := 1) rfl
theorem dL_ofField_2 : decode cL_ofField 2 = .ok (.iload_n 1, 1) := dk_at k_dL_ofField_0 (i := 2) rfl
theorem dL_ofField_3 : decode cL_ofField 3 = .ok (.iload_n 2, 1) := dk_at k_dL_ofField_0 (i := 3) rfl
theorem dL_ofField_4 : decode cL_ofField 4 = .ok (.invokevirtual 67, 3) := dk_at k_dL_ofField_0 (i := 4) rfl
theorem dL_ofField_7 : decode cL_ofField 7 = .ok (.i2l, 1) := dk_at k_dL_ofField_0 (i := 5) rfl
theorem dL_ofField_8 : decode cL_ofField 8 = .ok (.putfield 13, 3) := dk_at k_dL_ofField_0 (i := 6) rfl
theorem dL_ofField_11 : decode cL_ofField 11 = .ok (.goto 11, 3) := dk_at k_dL_ofField_0 (i := 7) rfl
theorem dL_ofField_14 : decode cL_ofField 14 = .ok (.astore 4, 2) := dk_at k_dL_ofField_0 (i := 8) rfl
theorem dL_ofField_16 : decode cL_ofField 16 = .ok (.iconst 1, 1) := dk_at k_dL_ofField_0 (i := 9) rfl
theorem dL_ofField_17 : decode cL_ofField 17 = .ok (.ireturn, 1) := dk_at k_dL_ofField_0 (i := 10) rfl
theorem dL_ofField_18 : decode cL_ofField 18 = .ok (.astore 4, 2) := dk_at k_dL_ofField_0 (i := 11) rfl
theorem dL_ofField_20 : decode cL_ofField 20 = .ok (.iconst 2, 1) := dk_at k_dL_ofField_0 (i := 12) rfl
theorem dL_ofField_21 : decode cL_ofField 21 = .ok (.ireturn, 1) := dk_at k_dL_ofField_0 (i := 13) rfl
theorem dL_ofField_22 : decode cL_ofField 22 = .ok (.iconst 0, 1) := dk_at k_dL_ofField_0 (i := 14) rfl
theorem dL_ofField_23 : decode cL_ofField 23 = .ok (.ireturn, 1) := dk_at k_dL_ofField_0 (i := 15) rfl
theorem k_dL_ofLine_0 : dk cL_ofLine [(0, .aload_n 3, 1), (1, .aload_n 0, 1), (2, .iload_n 1, 1), (3, .iload_n 2, 1), (4, .invokevirtual 70, 3), (7, .i2l, 1), (8, .putfield 13, 3), (11, .goto 11, 3), (14, .astore 4, 2), (16, .iconst 1, 1), (17, .ireturn, 1), (18, .astore 4, 2), (20, .iconst 2, 1), (21, .ireturn, 1), (22, .iconst 0, 1), (23, .ireturn, 1)] = true := by decide +kernel
theorem dL_ofLine_0 : decode cL_ofLine 0 = .ok (.aload_n 3, 1) := dk_at k_dL_ofLine_0 (i := 0) rfl
theorem dL_ofLine_1 : decode cL_ofLine 1 = .ok (.aload_n 0, 1) := dk_at k_dL_ofLine_0 (i := 1) rfl
theorem dL_ofLine_2 : decode cL_ofLine 2 = .ok (.iload_n 1, 1) := dk_at k_dL_ofLine_0 (i := 2) rfl
theorem dL_ofLine_3 : decode cL_ofLine 3 = .ok (.iload_n 2, 1) := dk_at k_dL_ofLine_0 (i := 3) rfl
theorem dL_ofLine_4 : decode cL_ofLine 4 = .ok (.invokevirtual 70, 3) := dk_at k_dL_ofLine_0 (i := 4) rfl
theorem dL_ofLine_7 : decode cL_ofLine 7 = .ok (.i2l, 1) := dk_at k_dL_ofLine_0 (i := 5) rfl
theorem dL_ofLine_8 : decode cL_ofLine 8 = .ok (.putfield 13, 3) := dk_at k_dL_ofLine_0 (i := 6) rfl
theorem dL_ofLine_11 : decode cL_ofLine 11 = .ok (.goto 11, 3) := dk_at k_dL_ofLine_0 (i := 7) rfl
theorem dL_ofLine_14 : decode cL_ofLine 14 = .ok (.astore 4, 2) := dk_at k_dL_ofLine_0 (i := 8) rfl
theorem dL_ofLine_16 : decode cL_ofLine 16 = .ok (.iconst 1, 1) := dk_at k_dL_ofLine_0 (i := 9) rfl
theorem dL_ofLine_17 : decode cL_ofLine 17 = .ok (.ireturn, 1) := dk_at k_dL_ofLine_0 (i := 10) rfl
theorem dL_ofLine_18 : decode cL_ofLine 18 = .ok (.astore 4, 2) := dk_at k_dL_ofLine_0 (i := 11) rfl
theorem dL_ofLine_20 : decode cL_ofLine 20 = .ok (.iconst 2, 1) := dk_at k_dL_ofLine_0 (i := 12) rfl
theorem dL_ofLine_21 : decode cL_ofLine 21 = .ok (.ireturn, 1) := dk_at k_dL_ofLine_0 (i := 13) rfl
theorem dL_ofLine_22 : decode cL_ofLine 22 = .ok (.iconst 0, 1) := dk_at k_dL_ofLine_0 (i := 14) rfl
theorem dL_ofLine_23 : decode cL_ofLine 23 = .ok (.ireturn, 1) := dk_at k_dL_ofLine_0 (i := 15) rfl
theorem k_dL_ofMachine_0 : dk cL_ofMachine [(0, .aload_n 3, 1), (1, .aload_n 0, 1), (2, .iload_n 1, 1), (3, .iload_n 2, 1), (4, .invokevirtual 73, 3), (7, .i2l, 1), (8, .putfield 13, 3), (11, .goto 11, 3), (14, .astore 4, 2), (16, .iconst 1, 1), (17, .ireturn, 1), (18, .astore 4, 2), (20, .iconst 2, 1), (21, .ireturn, 1), (22, .iconst 0, 1), (23, .ireturn, 1)] = true := by decide +kernel
theorem dL_ofMachine_0 : decode cL_ofMachine 0 = .ok (.aload_n 3, 1) := dk_at k_dL_ofMachine_0 (i := 0) rfl
theorem dL_ofMachine_1 : decode cL_ofMachine 1 = .ok (.aload_n 0, 1) := dk_at k_dL_ofMachine_0 (i := 1) rfl
theorem dL_ofMachine_2 : decode cL_ofMachine 2 = .ok (.iload_n 1, 1) := dk_at k_dL_ofMachine_0 (i := 2) rfl
theorem dL_ofMachine_3 : decode cL_ofMachine 3 = .ok (.iload_n 2, 1) := dk_at k_dL_ofMachine_0 (i := 3) rfl
theorem dL_ofMachine_4 : decode cL_ofMachine 4 = .ok (.invokevirtual 73, 3) := dk_at k_dL_ofMachine_0 (i := 4) rfl
theorem dL_ofMachine_7 : decode cL_ofMachine 7 = .ok (.i2l, 1) := dk_at k_dL_ofMachine_0 (i := 5) rfl
theorem dL_ofMachine_8 : decode cL_ofMachine 8 = .ok (.putfield 13, 3) := dk_at k_dL_ofMachine_0 (i := 6) rfl
theorem dL_ofMachine_11 : decode cL_ofMachine 11 = .ok (.goto 11, 3) := dk_at k_dL_ofMachine_0 (i := 7) rfl
theorem dL_ofMachine_14 : decode cL_ofMachine 14 = .ok (.astore 4, 2) := dk_at k_dL_ofMachine_0 (i := 8) rfl
theorem dL_ofMachine_16 : decode cL_ofMachine 16 = .ok (.iconst 1, 1) := dk_at k_dL_ofMachine_0 (i := 9) rfl
theorem dL_ofMachine_17 : decode cL_ofMachine 17 = .ok (.ireturn, 1) := dk_at k_dL_ofMachine_0 (i := 10) rfl
theorem dL_ofMachine_18 : decode cL_ofMachine 18 = .ok (.astore 4, 2) := dk_at k_dL_ofMachine_0 (i := 11) rfl
theorem dL_ofMachine_20 : decode cL_ofMachine 20 = .ok (.iconst 2, 1) := dk_at k_dL_ofMachine_0 (i := 12) rfl
theorem dL_ofMachine_21 : decode cL_ofMachine 21 = .ok (.ireturn, 1) := dk_at k_dL_ofMachine_0 (i := 13) rfl
theorem dL_ofMachine_22 : decode cL_ofMachine 22 = .ok (.iconst 0, 1) := dk_at k_dL_ofMachine_0 (i := 14) rfl
theorem dL_ofMachine_23 : decode cL_ofMachine 23 = .ok (.ireturn, 1) := dk_at k_dL_ofMachine_0 (i := 15) rfl
theorem k_dL_has_0 : dk cL_has [(0, .aload_n 3, 1), (1, .aload_n 0, 1), (2, .iload_n 1, 1), (3, .iload_n 2, 1), (4, .invokevirtual 76, 3), (7, .i2l, 1), (8, .putfield 13, 3), (11, .goto 7, 3), (14, .astore 4, 2), (16, .iconst 1, 1), (17, .ireturn, 1), (18, .iconst 0, 1), (19, .ireturn, 1)] = true := by decide +kernel
theorem dL_has_0 : decode cL_has 0 = .ok (.aload_n 3, 1) := dk_at k_dL_has_0 (i := 0) rfl
theorem dL_has_1 : decode cL_has 1 = .ok (.aload_n 0, 1) := dk_at k_dL_has_0 (i := 1) rfl
theorem dL_has_2 : decode cL_has 2 = .ok (.iload_n 1, 1) := dk_at k_dL_has_0 (i := 2) rfl
theorem dL_has_3 : decode cL_has 3 = .ok (.iload_n 2, 1) := dk_at k_dL_has_0 (i := 3) rfl
theorem dL_has_4 : decode cL_has 4 = .ok (.invokevirtual 76, 3) := dk_at k_dL_has_0 (i := 4) rfl
theorem dL_has_7 : decode cL_has 7 = .ok (.i2l, 1) := dk_at k_dL_has_0 (i := 5) rfl
theorem dL_has_8 : decode cL_has 8 = .ok (.putfield 13, 3) := dk_at k_dL_has_0 (i := 6) rfl
theorem dL_has_11 : decode cL_has 11 = .ok (.goto 7, 3) := dk_at k_dL_has_0 (i := 7) rfl
theorem dL_has_14 : decode cL_has 14 = .ok (.astore 4, 2) := dk_at k_dL_has_0 (i := 8) rfl
theorem dL_has_16 : decode cL_has 16 = .ok (.iconst 1, 1) := dk_at k_dL_has_0 (i := 9) rfl
theorem dL_has_17 : decode cL_has 17 = .ok (.ireturn, 1) := dk_at k_dL_has_0 (i := 10) rfl
theorem dL_has_18 : decode cL_has 18 = .ok (.iconst 0, 1) := dk_at k_dL_has_0 (i := 11) rfl
theorem dL_has_19 : decode cL_has 19 = .ok (.ireturn, 1) := dk_at k_dL_has_0 (i := 12) rfl
theorem k_dL_ofCommit_0 : dk cL_ofCommit [(0, .aload_n 3, 1), (1, .aload_n 0, 1), (2, .iload_n 1, 1), (3, .iload_n 2, 1), (4, .invokevirtual 79, 3), (7, .i2l, 1), (8, .putfield 13, 3), (11, .goto 7, 3), (14, .astore 4, 2), (16, .iconst 1, 1), (17, .ireturn, 1), (18, .iconst 0, 1), (19, .ireturn, 1)] = true := by decide +kernel
theorem dL_ofCommit_0 : decode cL_ofCommit 0 = .ok (.aload_n 3, 1) := dk_at k_dL_ofCommit_0 (i := 0) rfl
theorem dL_ofCommit_1 : decode cL_ofCommit 1 = .ok (.aload_n 0, 1) := dk_at k_dL_ofCommit_0 (i := 1) rfl
theorem dL_ofCommit_2 : decode cL_ofCommit 2 = .ok (.iload_n 1, 1) := dk_at k_dL_ofCommit_0 (i := 2) rfl
theorem dL_ofCommit_3 : decode cL_ofCommit 3 = .ok (.iload_n 2, 1) := dk_at k_dL_ofCommit_0 (i := 3) rfl
theorem dL_ofCommit_4 : decode cL_ofCommit 4 = .ok (.invokevirtual 79, 3) := dk_at k_dL_ofCommit_0 (i := 4) rfl
theorem dL_ofCommit_7 : decode cL_ofCommit 7 = .ok (.i2l, 1) := dk_at k_dL_ofCommit_0 (i := 5) rfl
theorem dL_ofCommit_8 : decode cL_ofCommit 8 = .ok (.putfield 13, 3) := dk_at k_dL_ofCommit_0 (i := 6) rfl
theorem dL_ofCommit_11 : decode cL_ofCommit 11 = .ok (.goto 7, 3) := dk_at k_dL_ofCommit_0 (i := 7) rfl
theorem dL_ofCommit_14 : decode cL_ofCommit 14 = .ok (.astore 4, 2) := dk_at k_dL_ofCommit_0 (i := 8) rfl
theorem dL_ofCommit_16 : decode cL_ofCommit 16 = .ok (.iconst 1, 1) := dk_at k_dL_ofCommit_0 (i := 9) rfl
theorem dL_ofCommit_17 : decode cL_ofCommit 17 = .ok (.ireturn, 1) := dk_at k_dL_ofCommit_0 (i := 10) rfl
theorem dL_ofCommit_18 : decode cL_ofCommit 18 = .ok (.iconst 0, 1) := dk_at k_dL_ofCommit_0 (i := 11) rfl
theorem dL_ofCommit_19 : decode cL_ofCommit 19 = .ok (.ireturn, 1) := dk_at k_dL_ofCommit_0 (i := 12) rfl
theorem k_dL_house_0 : dk cL_house [(0, .aload_n 2, 1), (1, .aload_n 0, 1), (2, .iload_n 1, 1), (3, .invokevirtual 82, 3), (6, .i2l, 1), (7, .putfield 13, 3), (10, .goto 6, 3), (13, .astore_n 3, 1), (14, .iconst 1, 1), (15, .ireturn, 1), (16, .iconst 0, 1), (17, .ireturn, 1)] = true := by decide +kernel
theorem dL_house_0 : decode cL_house 0 = .ok (.aload_n 2, 1) := dk_at k_dL_house_0 (i := 0) rfl
theorem dL_house_1 : decode cL_house 1 = .ok (.aload_n 0, 1) := dk_at k_dL_house_0 (i := 1) rfl
theorem dL_house_2 : decode cL_house 2 = .ok (.iload_n 1, 1) := dk_at k_dL_house_0 (i := 2) rfl
theorem dL_house_3 : decode cL_house 3 = .ok (.invokevirtual 82, 3) := dk_at k_dL_house_0 (i := 3) rfl
theorem dL_house_6 : decode cL_house 6 = .ok (.i2l, 1) := dk_at k_dL_house_0 (i := 4) rfl
theorem dL_house_7 : decode cL_house 7 = .ok (.putfield 13, 3) := dk_at k_dL_house_0 (i := 5) rfl
theorem dL_house_10 : decode cL_house 10 = .ok (.goto 6, 3) := dk_at k_dL_house_0 (i := 6) rfl
theorem dL_house_13 : decode cL_house 13 = .ok (.astore_n 3, 1) := dk_at k_dL_house_0 (i := 7) rfl
theorem dL_house_14 : decode cL_house 14 = .ok (.iconst 1, 1) := dk_at k_dL_house_0 (i := 8) rfl
theorem dL_house_15 : decode cL_house 15 = .ok (.ireturn, 1) := dk_at k_dL_house_0 (i := 9) rfl
theorem dL_house_16 : decode cL_house 16 = .ok (.iconst 0, 1) := dk_at k_dL_house_0 (i := 10) rfl
theorem dL_house_17 : decode cL_house 17 = .ok (.ireturn, 1) := dk_at k_dL_house_0 (i := 11) rfl
theorem k_dL_value_0 : dk cL_value [(0, .aload_n 2, 1), (1, .aload_n 0, 1), (2, .iload_n 1, 1), (3, .invokevirtual 85, 3), (6, .putfield 89, 3), (9, .goto 6, 3), (12, .astore_n 3, 1), (13, .iconst 1, 1), (14, .ireturn, 1), (15, .iconst 0, 1), (16, .ireturn, 1)] = true := by decide +kernel
theorem dL_value_0 : decode cL_value 0 = .ok (.aload_n 2, 1) := dk_at k_dL_value_0 (i := 0) rfl
theorem dL_value_1 : decode cL_value 1 = .ok (.aload_n 0, 1) := dk_at k_dL_value_0 (i := 1) rfl
theorem dL_value_2 : decode cL_value 2 = .ok (.iload_n 1, 1) := dk_at k_dL_value_0 (i := 2) rfl
theorem dL_value_3 : decode cL_value 3 = .ok (.invokevirtual 85, 3) := dk_at k_dL_value_0 (i := 3) rfl
theorem dL_value_6 : decode cL_value 6 = .ok (.putfield 89, 3) := dk_at k_dL_value_0 (i := 4) rfl
theorem dL_value_9 : decode cL_value 9 = .ok (.goto 6, 3) := dk_at k_dL_value_0 (i := 5) rfl
theorem dL_value_12 : decode cL_value 12 = .ok (.astore_n 3, 1) := dk_at k_dL_value_0 (i := 6) rfl
theorem dL_value_13 : decode cL_value 13 = .ok (.iconst 1, 1) := dk_at k_dL_value_0 (i := 7) rfl
theorem dL_value_14 : decode cL_value 14 = .ok (.ireturn, 1) := dk_at k_dL_value_0 (i := 8) rfl
theorem dL_value_15 : decode cL_value 15 = .ok (.iconst 0, 1) := dk_at k_dL_value_0 (i := 9) rfl
theorem dL_value_16 : decode cL_value 16 = .ok (.ireturn, 1) := dk_at k_dL_value_0 (i := 10) rfl
theorem k_dL_reason_0 : dk cL_reason [(0, .aload_n 2, 1), (1, .aload_n 0, 1), (2, .iload_n 1, 1), (3, .invokevirtual 93, 3), (6, .i2l, 1), (7, .putfield 13, 3), (10, .goto 6, 3), (13, .astore_n 3, 1), (14, .iconst 1, 1), (15, .ireturn, 1), (16, .iconst 0, 1), (17, .ireturn, 1)] = true := by decide +kernel
theorem dL_reason_0 : decode cL_reason 0 = .ok (.aload_n 2, 1) := dk_at k_dL_reason_0 (i := 0) rfl
theorem dL_reason_1 : decode cL_reason 1 = .ok (.aload_n 0, 1) := dk_at k_dL_reason_0 (i := 1) rfl
theorem dL_reason_2 : decode cL_reason 2 = .ok (.iload_n 1, 1) := dk_at k_dL_reason_0 (i := 2) rfl
theorem dL_reason_3 : decode cL_reason 3 = .ok (.invokevirtual 93, 3) := dk_at k_dL_reason_0 (i := 3) rfl
theorem dL_reason_6 : decode cL_reason 6 = .ok (.i2l, 1) := dk_at k_dL_reason_0 (i := 4) rfl
theorem dL_reason_7 : decode cL_reason 7 = .ok (.putfield 13, 3) := dk_at k_dL_reason_0 (i := 5) rfl
theorem dL_reason_10 : decode cL_reason 10 = .ok (.goto 6, 3) := dk_at k_dL_reason_0 (i := 6) rfl
theorem dL_reason_13 : decode cL_reason 13 = .ok (.astore_n 3, 1) := dk_at k_dL_reason_0 (i := 7) rfl
theorem dL_reason_14 : decode cL_reason 14 = .ok (.iconst 1, 1) := dk_at k_dL_reason_0 (i := 8) rfl
theorem dL_reason_15 : decode cL_reason 15 = .ok (.ireturn, 1) := dk_at k_dL_reason_0 (i := 9) rfl
theorem dL_reason_16 : decode cL_reason 16 = .ok (.iconst 0, 1) := dk_at k_dL_reason_0 (i := 10) rfl
theorem dL_reason_17 : decode cL_reason 17 = .ok (.ireturn, 1) := dk_at k_dL_reason_0 (i := 11) rfl
theorem k_dL_met_0 : dk cL_met [(0, .aload_n 3, 1), (1, .aload_n 0, 1), (2, .iload_n 1, 1), (3, .iload_n 2, 1), (4, .invokevirtual 96, 3), (7, .i2l, 1), (8, .putfield 13, 3), (11, .goto 11, 3), (14, .astore 4, 2), (16, .iconst 1, 1), (17, .ireturn, 1), (18, .astore 4, 2), (20, .iconst 2, 1), (21, .ireturn, 1), (22, .iconst 0, 1), (23, .ireturn, 1)] = true := by decide +kernel
theorem dL_met_0 : decode cL_met 0 = .ok (.aload_n 3, 1) := dk_at k_dL_met_0 (i := 0) rfl
theorem dL_met_1 : decode cL_met 1 = .ok (.aload_n 0, 1) := dk_at k_dL_met_0 (i := 1) rfl
theorem dL_met_2 : decode cL_met 2 = .ok (.iload_n 1, 1) := dk_at k_dL_met_0 (i := 2) rfl
theorem dL_met_3 : decode cL_met 3 = .ok (.iload_n 2, 1) := dk_at k_dL_met_0 (i := 3) rfl
theorem dL_met_4 : decode cL_met 4 = .ok (.invokevirtual 96, 3) := dk_at k_dL_met_0 (i := 4) rfl
theorem dL_met_7 : decode cL_met 7 = .ok (.i2l, 1) := dk_at k_dL_met_0 (i := 5) rfl
theorem dL_met_8 : decode cL_met 8 = .ok (.putfield 13, 3) := dk_at k_dL_met_0 (i := 6) rfl
theorem dL_met_11 : decode cL_met 11 = .ok (.goto 11, 3) := dk_at k_dL_met_0 (i := 7) rfl
theorem dL_met_14 : decode cL_met 14 = .ok (.astore 4, 2) := dk_at k_dL_met_0 (i := 8) rfl
theorem dL_met_16 : decode cL_met 16 = .ok (.iconst 1, 1) := dk_at k_dL_met_0 (i := 9) rfl
theorem dL_met_17 : decode cL_met 17 = .ok (.ireturn, 1) := dk_at k_dL_met_0 (i := 10) rfl
theorem dL_met_18 : decode cL_met 18 = .ok (.astore 4, 2) := dk_at k_dL_met_0 (i := 11) rfl
theorem dL_met_20 : decode cL_met 20 = .ok (.iconst 2, 1) := dk_at k_dL_met_0 (i := 12) rfl
theorem dL_met_21 : decode cL_met 21 = .ok (.ireturn, 1) := dk_at k_dL_met_0 (i := 13) rfl
theorem dL_met_22 : decode cL_met 22 = .ok (.iconst 0, 1) := dk_at k_dL_met_0 (i := 14) rfl
theorem dL_met_23 : decode cL_met 23 = .ok (.ireturn, 1) := dk_at k_dL_met_0 (i := 15) rfl
theorem k_dL_choices_0 : dk cL_choices [(0, .aload_n 3, 1), (1, .aload_n 0, 1), (2, .iload_n 1, 1), (3, .iload_n 2, 1), (4, .invokevirtual 99, 3), (7, .i2l, 1), (8, .putfield 13, 3), (11, .goto 11, 3), (14, .astore 4, 2), (16, .iconst 1, 1), (17, .ireturn, 1), (18, .astore 4, 2), (20, .iconst 2, 1), (21, .ireturn, 1), (22, .iconst 0, 1), (23, .ireturn, 1)] = true := by decide +kernel
theorem dL_choices_0 : decode cL_choices 0 = .ok (.aload_n 3, 1) := dk_at k_dL_choices_0 (i := 0) rfl
theorem dL_choices_1 : decode cL_choices 1 = .ok (.aload_n 0, 1) := dk_at k_dL_choices_0 (i := 1) rfl
theorem dL_choices_2 : decode cL_choices 2 = .ok (.iload_n 1, 1) := dk_at k_dL_choices_0 (i := 2) rfl
theorem dL_choices_3 : decode cL_choices 3 = .ok (.iload_n 2, 1) := dk_at k_dL_choices_0 (i := 3) rfl
theorem dL_choices_4 : decode cL_choices 4 = .ok (.invokevirtual 99, 3) := dk_at k_dL_choices_0 (i := 4) rfl
theorem dL_choices_7 : decode cL_choices 7 = .ok (.i2l, 1) := dk_at k_dL_choices_0 (i := 5) rfl
theorem dL_choices_8 : decode cL_choices 8 = .ok (.putfield 13, 3) := dk_at k_dL_choices_0 (i := 6) rfl
theorem dL_choices_11 : decode cL_choices 11 = .ok (.goto 11, 3) := dk_at k_dL_choices_0 (i := 7) rfl
theorem dL_choices_14 : decode cL_choices 14 = .ok (.astore 4, 2) := dk_at k_dL_choices_0 (i := 8) rfl
theorem dL_choices_16 : decode cL_choices 16 = .ok (.iconst 1, 1) := dk_at k_dL_choices_0 (i := 9) rfl
theorem dL_choices_17 : decode cL_choices 17 = .ok (.ireturn, 1) := dk_at k_dL_choices_0 (i := 10) rfl
theorem dL_choices_18 : decode cL_choices 18 = .ok (.astore 4, 2) := dk_at k_dL_choices_0 (i := 11) rfl
theorem dL_choices_20 : decode cL_choices 20 = .ok (.iconst 2, 1) := dk_at k_dL_choices_0 (i := 12) rfl
theorem dL_choices_21 : decode cL_choices 21 = .ok (.ireturn, 1) := dk_at k_dL_choices_0 (i := 13) rfl
theorem dL_choices_22 : decode cL_choices 22 = .ok (.iconst 0, 1) := dk_at k_dL_choices_0 (i := 14) rfl
theorem dL_choices_23 : decode cL_choices 23 = .ok (.ireturn, 1) := dk_at k_dL_choices_0 (i := 15) rfl
theorem k_dL_isNarrower_0 : dk cL_isNarrower [(0, .aload_n 3, 1), (1, .aload_n 0, 1), (2, .iload_n 1, 1), (3, .iload_n 2, 1), (4, .invokevirtual 102, 3), (7, .ifCond .eq 7, 3), (10, .lconst 1, 1), (11, .goto 4, 3), (14, .lconst 0, 1), (15, .putfield 13, 3), (18, .goto 7, 3), (21, .astore 4, 2), (23, .iconst 1, 1), (24, .ireturn, 1), (25, .iconst 0, 1), (26, .ireturn, 1)] = true := by decide +kernel
theorem dL_isNarrower_0 : decode cL_isNarrower 0 = .ok (.aload_n 3, 1) := dk_at k_dL_isNarrower_0 (i := 0) rfl
theorem dL_isNarrower_1 : decode cL_isNarrower 1 = .ok (.aload_n 0, 1) := dk_at k_dL_isNarrower_0 (i := 1) rfl
theorem dL_isNarrower_2 : decode cL_isNarrower 2 = .ok (.iload_n 1, 1) := dk_at k_dL_isNarrower_0 (i := 2) rfl
theorem dL_isNarrower_3 : decode cL_isNarrower 3 = .ok (.iload_n 2, 1) := dk_at k_dL_isNarrower_0 (i := 3) rfl
theorem dL_isNarrower_4 : decode cL_isNarrower 4 = .ok (.invokevirtual 102, 3) := dk_at k_dL_isNarrower_0 (i := 4) rfl
theorem dL_isNarrower_7 : decode cL_isNarrower 7 = .ok (.ifCond .eq 7, 3) := dk_at k_dL_isNarrower_0 (i := 5) rfl
theorem dL_isNarrower_10 : decode cL_isNarrower 10 = .ok (.lconst 1, 1) := dk_at k_dL_isNarrower_0 (i := 6) rfl
theorem dL_isNarrower_11 : decode cL_isNarrower 11 = .ok (.goto 4, 3) := dk_at k_dL_isNarrower_0 (i := 7) rfl
theorem dL_isNarrower_14 : decode cL_isNarrower 14 = .ok (.lconst 0, 1) := dk_at k_dL_isNarrower_0 (i := 8) rfl
theorem dL_isNarrower_15 : decode cL_isNarrower 15 = .ok (.putfield 13, 3) := dk_at k_dL_isNarrower_0 (i := 9) rfl
theorem dL_isNarrower_18 : decode cL_isNarrower 18 = .ok (.goto 7, 3) := dk_at k_dL_isNarrower_0 (i := 10) rfl
theorem dL_isNarrower_21 : decode cL_isNarrower 21 = .ok (.astore 4, 2) := dk_at k_dL_isNarrower_0 (i := 11) rfl
theorem dL_isNarrower_23 : decode cL_isNarrower 23 = .ok (.iconst 1, 1) := dk_at k_dL_isNarrower_0 (i := 12) rfl
theorem dL_isNarrower_24 : decode cL_isNarrower 24 = .ok (.ireturn, 1) := dk_at k_dL_isNarrower_0 (i := 13) rfl
theorem dL_isNarrower_25 : decode cL_isNarrower 25 = .ok (.iconst 0, 1) := dk_at k_dL_isNarrower_0 (i := 14) rfl
theorem dL_isNarrower_26 : decode cL_isNarrower 26 = .ok (.ireturn, 1) := dk_at k_dL_isNarrower_0 (i := 15) rfl
theorem k_dL_law_0 : dk cL_law [(0, .new 8, 3), (3, .dup, 1), (4, .invokespecial 106, 3), (7, .astore_n 1, 1), (8, .new 107, 3), (11, .dup, 1), (12, .invokespecial 109, 3), (15, .astore_n 2, 1), (16, .new 14, 3), (19, .dup, 1), (20, .invokespecial 110, 3), (23, .astore_n 3, 1), (24, .iconst 0, 1), (25, .istore 4, 2), (27, .iload 4, 2), (29, .aload_n 0, 1), (30, .arraylength, 1), (31, .iconst 5, 1), (32, .isub, 1), (33, .if_icmp .gt 1249, 3), (36, .aload_n 0, 1), (37, .iload 4, 2), (39, .iaload, 1), (40, .bipush 31, 2), (42, .iand, 1), (43, .tableswitch 1233 0 26 #[121, 149, 201, 281, 345, 426, 490, 546, 602, 642, 658, 698, 750, 790, 803, 843, 883, 923, 963, 1003, 1031, 1059, 1087, 1127, 1167, 1207, 1220], 121), (164, .aload_n 1, 1), (165, .aload_n 0, 1), (166, .iload 4, 2), (168, .iconst 1, 1), (169, .iadd, 1), (170, .iaload, 1)] = true := by decide +kernel
theorem dL_law_0 : decode cL_law 0 = .ok (.new 8, 3) := dk_at k_dL_law_0 (i := 0) rfl
theorem dL_law_3 : decode cL_law 3 = .ok (.dup, 1) := dk_at k_dL_law_0 (i := 1) rfl
theorem dL_law_4 : decode cL_law 4 = .ok (.invokespecial 106, 3) := dk_at k_dL_law_0 (i := 2) rfl
theorem dL_law_7 : decode cL_law 7 = .ok (.astore_n 1, 1) := dk_at k_dL_law_0 (i := 3) rfl
theorem dL_law_8 : decode cL_law 8 = .ok (.new 107, 3) := dk_at k_dL_law_0 (i := 4) rfl
theorem dL_law_11 : decode cL_law 11 = .ok (.dup, 1) := dk_at k_dL_law_0 (i := 5) rfl
theorem dL_law_12 : decode cL_law 12 = .ok (.invokespecial 109, 3) := dk_at k_dL_law_0 (i := 6) rfl
theorem dL_law_15 : decode cL_law 15 = .ok (.astore_n 2, 1) := dk_at k_dL_law_0 (i := 7) rfl
theorem dL_law_16 : decode cL_law 16 = .ok (.new 14, 3) := dk_at k_dL_law_0 (i := 8) rfl
theorem dL_law_19 : decode cL_law 19 = .ok (.dup, 1) := dk_at k_dL_law_0 (i := 9) rfl
theorem dL_law_20 : decode cL_law 20 = .ok (.invokespecial 110, 3) := dk_at k_dL_law_0 (i := 10) rfl
theorem dL_law_23 : decode cL_law 23 = .ok (.astore_n 3, 1) := dk_at k_dL_law_0 (i := 11) rfl
theorem dL_law_24 : decode cL_law 24 = .ok (.iconst 0, 1) := dk_at k_dL_law_0 (i := 12) rfl
theorem dL_law_25 : decode cL_law 25 = .ok (.istore 4, 2) := dk_at k_dL_law_0 (i := 13) rfl
theorem dL_law_27 : decode cL_law 27 = .ok (.iload 4, 2) := dk_at k_dL_law_0 (i := 14) rfl
theorem dL_law_29 : decode cL_law 29 = .ok (.aload_n 0, 1) := dk_at k_dL_law_0 (i := 15) rfl
theorem dL_law_30 : decode cL_law 30 = .ok (.arraylength, 1) := dk_at k_dL_law_0 (i := 16) rfl
theorem dL_law_31 : decode cL_law 31 = .ok (.iconst 5, 1) := dk_at k_dL_law_0 (i := 17) rfl
theorem dL_law_32 : decode cL_law 32 = .ok (.isub, 1) := dk_at k_dL_law_0 (i := 18) rfl
theorem dL_law_33 : decode cL_law 33 = .ok (.if_icmp .gt 1249, 3) := dk_at k_dL_law_0 (i := 19) rfl
theorem dL_law_36 : decode cL_law 36 = .ok (.aload_n 0, 1) := dk_at k_dL_law_0 (i := 20) rfl
theorem dL_law_37 : decode cL_law 37 = .ok (.iload 4, 2) := dk_at k_dL_law_0 (i := 21) rfl
theorem dL_law_39 : decode cL_law 39 = .ok (.iaload, 1) := dk_at k_dL_law_0 (i := 22) rfl
theorem dL_law_40 : decode cL_law 40 = .ok (.bipush 31, 2) := dk_at k_dL_law_0 (i := 23) rfl
theorem dL_law_42 : decode cL_law 42 = .ok (.iand, 1) := dk_at k_dL_law_0 (i := 24) rfl
theorem dL_law_43 : decode cL_law 43 = .ok (.tableswitch 1233 0 26 #[121, 149, 201, 281, 345, 426, 490, 546, 602, 642, 658, 698, 750, 790, 803, 843, 883, 923, 963, 1003, 1031, 1059, 1087, 1127, 1167, 1207, 1220], 121) := dk_at k_dL_law_0 (i := 25) rfl
theorem dL_law_164 : decode cL_law 164 = .ok (.aload_n 1, 1) := dk_at k_dL_law_0 (i := 26) rfl
theorem dL_law_165 : decode cL_law 165 = .ok (.aload_n 0, 1) := dk_at k_dL_law_0 (i := 27) rfl
theorem dL_law_166 : decode cL_law 166 = .ok (.iload 4, 2) := dk_at k_dL_law_0 (i := 28) rfl
theorem dL_law_168 : decode cL_law 168 = .ok (.iconst 1, 1) := dk_at k_dL_law_0 (i := 29) rfl
theorem dL_law_169 : decode cL_law 169 = .ok (.iadd, 1) := dk_at k_dL_law_0 (i := 30) rfl
theorem dL_law_170 : decode cL_law 170 = .ok (.iaload, 1) := dk_at k_dL_law_0 (i := 31) rfl
theorem k_dL_law_171 : dk cL_law [(171, .aload_n 3, 1), (172, .invokestatic 111, 3), (175, .istore 5, 2), (177, .aload_n 2, 1), (178, .aload_n 0, 1), (179, .iload 4, 2), (181, .iconst 1, 1), (182, .iadd, 1), (183, .iaload, 1), (184, .invokevirtual 116, 3), (187, .istore 6, 2), (189, .goto 1087, 3), (192, .aload_n 1, 1), (193, .aload_n 0, 1), (194, .iload 4, 2), (196, .iconst 1, 1), (197, .iadd, 1), (198, .iaload, 1), (199, .aload_n 0, 1), (200, .iload 4, 2), (202, .iconst 2, 1), (203, .iadd, 1), (204, .iaload, 1), (205, .aload_n 0, 1), (206, .iload 4, 2), (208, .iconst 3, 1), (209, .iadd, 1), (210, .iaload, 1), (211, .aload_n 3, 1), (212, .invokestatic 117, 3), (215, .istore 5, 2), (217, .aload_n 2, 1)] = true := by decide +kernel
theorem dL_law_171 : decode cL_law 171 = .ok (.aload_n 3, 1) := dk_at k_dL_law_171 (i := 0) rfl
theorem dL_law_172 : decode cL_law 172 = .ok (.invokestatic 111, 3) := dk_at k_dL_law_171 (i := 1) rfl
theorem dL_law_175 : decode cL_law 175 = .ok (.istore 5, 2) := dk_at k_dL_law_171 (i := 2) rfl
theorem dL_law_177 : decode cL_law 177 = .ok (.aload_n 2, 1) := dk_at k_dL_law_171 (i := 3) rfl
theorem dL_law_178 : decode cL_law 178 = .ok (.aload_n 0, 1) := dk_at k_dL_law_171 (i := 4) rfl
theorem dL_law_179 : decode cL_law 179 = .ok (.iload 4, 2) := dk_at k_dL_law_171 (i := 5) rfl
theorem dL_law_181 : decode cL_law 181 = .ok (.iconst 1, 1) := dk_at k_dL_law_171 (i := 6) rfl
theorem dL_law_182 : decode cL_law 182 = .ok (.iadd, 1) := dk_at k_dL_law_171 (i := 7) rfl
theorem dL_law_183 : decode cL_law 183 = .ok (.iaload, 1) := dk_at k_dL_law_171 (i := 8) rfl
theorem dL_law_184 : decode cL_law 184 = .ok (.invokevirtual 116, 3) := dk_at k_dL_law_171 (i := 9) rfl
theorem dL_law_187 : decode cL_law 187 = .ok (.istore 6, 2) := dk_at k_dL_law_171 (i := 10) rfl
theorem dL_law_189 : decode cL_law 189 = .ok (.goto 1087, 3) := dk_at k_dL_law_171 (i := 11) rfl
theorem dL_law_192 : decode cL_law 192 = .ok (.aload_n 1, 1) := dk_at k_dL_law_171 (i := 12) rfl
theorem dL_law_193 : decode cL_law 193 = .ok (.aload_n 0, 1) := dk_at k_dL_law_171 (i := 13) rfl
theorem dL_law_194 : decode cL_law 194 = .ok (.iload 4, 2) := dk_at k_dL_law_171 (i := 14) rfl
theorem dL_law_196 : decode cL_law 196 = .ok (.iconst 1, 1) := dk_at k_dL_law_171 (i := 15) rfl
theorem dL_law_197 : decode cL_law 197 = .ok (.iadd, 1) := dk_at k_dL_law_171 (i := 16) rfl
theorem dL_law_198 : decode cL_law 198 = .ok (.iaload, 1) := dk_at k_dL_law_171 (i := 17) rfl
theorem dL_law_199 : decode cL_law 199 = .ok (.aload_n 0, 1) := dk_at k_dL_law_171 (i := 18) rfl
theorem dL_law_200 : decode cL_law 200 = .ok (.iload 4, 2) := dk_at k_dL_law_171 (i := 19) rfl
theorem dL_law_202 : decode cL_law 202 = .ok (.iconst 2, 1) := dk_at k_dL_law_171 (i := 20) rfl
theorem dL_law_203 : decode cL_law 203 = .ok (.iadd, 1) := dk_at k_dL_law_171 (i := 21) rfl
theorem dL_law_204 : decode cL_law 204 = .ok (.iaload, 1) := dk_at k_dL_law_171 (i := 22) rfl
theorem dL_law_205 : decode cL_law 205 = .ok (.aload_n 0, 1) := dk_at k_dL_law_171 (i := 23) rfl
theorem dL_law_206 : decode cL_law 206 = .ok (.iload 4, 2) := dk_at k_dL_law_171 (i := 24) rfl
theorem dL_law_208 : decode cL_law 208 = .ok (.iconst 3, 1) := dk_at k_dL_law_171 (i := 25) rfl
theorem dL_law_209 : decode cL_law 209 = .ok (.iadd, 1) := dk_at k_dL_law_171 (i := 26) rfl
theorem dL_law_210 : decode cL_law 210 = .ok (.iaload, 1) := dk_at k_dL_law_171 (i := 27) rfl
theorem dL_law_211 : decode cL_law 211 = .ok (.aload_n 3, 1) := dk_at k_dL_law_171 (i := 28) rfl
theorem dL_law_212 : decode cL_law 212 = .ok (.invokestatic 117, 3) := dk_at k_dL_law_171 (i := 29) rfl
theorem dL_law_215 : decode cL_law 215 = .ok (.istore 5, 2) := dk_at k_dL_law_171 (i := 30) rfl
theorem dL_law_217 : decode cL_law 217 = .ok (.aload_n 2, 1) := dk_at k_dL_law_171 (i := 31) rfl
theorem k_dL_law_218 : dk cL_law [(218, .aload_n 0, 1), (219, .iload 4, 2), (221, .iconst 1, 1), (222, .iadd, 1), (223, .iaload, 1), (224, .aload_n 0, 1), (225, .iload 4, 2), (227, .iconst 2, 1), (228, .iadd, 1), (229, .iaload, 1), (230, .aload_n 0, 1), (231, .iload 4, 2), (233, .iconst 3, 1), (234, .iadd, 1), (235, .iaload, 1), (236, .invokevirtual 120, 3), (239, .istore 6, 2), (241, .goto 1035, 3), (244, .aload_n 1, 1), (245, .aload_n 0, 1), (246, .iload 4, 2), (248, .iconst 1, 1), (249, .iadd, 1), (250, .iaload, 1), (251, .aload_n 0, 1), (252, .iload 4, 2), (254, .iconst 2, 1), (255, .iadd, 1), (256, .iaload, 1), (257, .aload_n 0, 1), (258, .iload 4, 2), (260, .iconst 3, 1)] = true := by decide +kernel
theorem dL_law_218 : decode cL_law 218 = .ok (.aload_n 0, 1) := dk_at k_dL_law_218 (i := 0) rfl
theorem dL_law_219 : decode cL_law 219 = .ok (.iload 4, 2) := dk_at k_dL_law_218 (i := 1) rfl
theorem dL_law_221 : decode cL_law 221 = .ok (.iconst 1, 1) := dk_at k_dL_law_218 (i := 2) rfl
theorem dL_law_222 : decode cL_law 222 = .ok (.iadd, 1) := dk_at k_dL_law_218 (i := 3) rfl
theorem dL_law_223 : decode cL_law 223 = .ok (.iaload, 1) := dk_at k_dL_law_218 (i := 4) rfl
theorem dL_law_224 : decode cL_law 224 = .ok (.aload_n 0, 1) := dk_at k_dL_law_218 (i := 5) rfl
theorem dL_law_225 : decode cL_law 225 = .ok (.iload 4, 2) := dk_at k_dL_law_218 (i := 6) rfl
theorem dL_law_227 : decode cL_law 227 = .ok (.iconst 2, 1) := dk_at k_dL_law_218 (i := 7) rfl
theorem dL_law_228 : decode cL_law 228 = .ok (.iadd, 1) := dk_at k_dL_law_218 (i := 8) rfl
theorem dL_law_229 : decode cL_law 229 = .ok (.iaload, 1) := dk_at k_dL_law_218 (i := 9) rfl
theorem dL_law_230 : decode cL_law 230 = .ok (.aload_n 0, 1) := dk_at k_dL_law_218 (i := 10) rfl
theorem dL_law_231 : decode cL_law 231 = .ok (.iload 4, 2) := dk_at k_dL_law_218 (i := 11) rfl
theorem dL_law_233 : decode cL_law 233 = .ok (.iconst 3, 1) := dk_at k_dL_law_218 (i := 12) rfl
theorem dL_law_234 : decode cL_law 234 = .ok (.iadd, 1) := dk_at k_dL_law_218 (i := 13) rfl
theorem dL_law_235 : decode cL_law 235 = .ok (.iaload, 1) := dk_at k_dL_law_218 (i := 14) rfl
theorem dL_law_236 : decode cL_law 236 = .ok (.invokevirtual 120, 3) := dk_at k_dL_law_218 (i := 15) rfl
theorem dL_law_239 : decode cL_law 239 = .ok (.istore 6, 2) := dk_at k_dL_law_218 (i := 16) rfl
theorem dL_law_241 : decode cL_law 241 = .ok (.goto 1035, 3) := dk_at k_dL_law_218 (i := 17) rfl
theorem dL_law_244 : decode cL_law 244 = .ok (.aload_n 1, 1) := dk_at k_dL_law_218 (i := 18) rfl
theorem dL_law_245 : decode cL_law 245 = .ok (.aload_n 0, 1) := dk_at k_dL_law_218 (i := 19) rfl
theorem dL_law_246 : decode cL_law 246 = .ok (.iload 4, 2) := dk_at k_dL_law_218 (i := 20) rfl
theorem dL_law_248 : decode cL_law 248 = .ok (.iconst 1, 1) := dk_at k_dL_law_218 (i := 21) rfl
theorem dL_law_249 : decode cL_law 249 = .ok (.iadd, 1) := dk_at k_dL_law_218 (i := 22) rfl
theorem dL_law_250 : decode cL_law 250 = .ok (.iaload, 1) := dk_at k_dL_law_218 (i := 23) rfl
theorem dL_law_251 : decode cL_law 251 = .ok (.aload_n 0, 1) := dk_at k_dL_law_218 (i := 24) rfl
theorem dL_law_252 : decode cL_law 252 = .ok (.iload 4, 2) := dk_at k_dL_law_218 (i := 25) rfl
theorem dL_law_254 : decode cL_law 254 = .ok (.iconst 2, 1) := dk_at k_dL_law_218 (i := 26) rfl
theorem dL_law_255 : decode cL_law 255 = .ok (.iadd, 1) := dk_at k_dL_law_218 (i := 27) rfl
theorem dL_law_256 : decode cL_law 256 = .ok (.iaload, 1) := dk_at k_dL_law_218 (i := 28) rfl
theorem dL_law_257 : decode cL_law 257 = .ok (.aload_n 0, 1) := dk_at k_dL_law_218 (i := 29) rfl
theorem dL_law_258 : decode cL_law 258 = .ok (.iload 4, 2) := dk_at k_dL_law_218 (i := 30) rfl
theorem dL_law_260 : decode cL_law 260 = .ok (.iconst 3, 1) := dk_at k_dL_law_218 (i := 31) rfl
theorem k_dL_law_261 : dk cL_law [(261, .iadd, 1), (262, .iaload, 1), (263, .aload_n 0, 1), (264, .iload 4, 2), (266, .iconst 4, 1), (267, .iadd, 1), (268, .iaload, 1), (269, .ifCond .eq 7, 3), (272, .iconst 1, 1), (273, .goto 4, 3), (276, .iconst 0, 1), (277, .aload_n 3, 1), (278, .invokestatic 121, 3), (281, .istore 5, 2), (283, .aload_n 2, 1), (284, .aload_n 0, 1), (285, .iload 4, 2), (287, .iconst 1, 1), (288, .iadd, 1), (289, .iaload, 1), (290, .aload_n 0, 1), (291, .iload 4, 2), (293, .iconst 2, 1), (294, .iadd, 1), (295, .iaload, 1), (296, .aload_n 0, 1), (297, .iload 4, 2), (299, .iconst 3, 1), (300, .iadd, 1), (301, .iaload, 1), (302, .aload_n 0, 1), (303, .iload 4, 2)] = true := by decide +kernel
theorem dL_law_261 : decode cL_law 261 = .ok (.iadd, 1) := dk_at k_dL_law_261 (i := 0) rfl
theorem dL_law_262 : decode cL_law 262 = .ok (.iaload, 1) := dk_at k_dL_law_261 (i := 1) rfl
theorem dL_law_263 : decode cL_law 263 = .ok (.aload_n 0, 1) := dk_at k_dL_law_261 (i := 2) rfl
theorem dL_law_264 : decode cL_law 264 = .ok (.iload 4, 2) := dk_at k_dL_law_261 (i := 3) rfl
theorem dL_law_266 : decode cL_law 266 = .ok (.iconst 4, 1) := dk_at k_dL_law_261 (i := 4) rfl
theorem dL_law_267 : decode cL_law 267 = .ok (.iadd, 1) := dk_at k_dL_law_261 (i := 5) rfl
theorem dL_law_268 : decode cL_law 268 = .ok (.iaload, 1) := dk_at k_dL_law_261 (i := 6) rfl
theorem dL_law_269 : decode cL_law 269 = .ok (.ifCond .eq 7, 3) := dk_at k_dL_law_261 (i := 7) rfl
theorem dL_law_272 : decode cL_law 272 = .ok (.iconst 1, 1) := dk_at k_dL_law_261 (i := 8) rfl
theorem dL_law_273 : decode cL_law 273 = .ok (.goto 4, 3) := dk_at k_dL_law_261 (i := 9) rfl
theorem dL_law_276 : decode cL_law 276 = .ok (.iconst 0, 1) := dk_at k_dL_law_261 (i := 10) rfl
theorem dL_law_277 : decode cL_law 277 = .ok (.aload_n 3, 1) := dk_at k_dL_law_261 (i := 11) rfl
theorem dL_law_278 : decode cL_law 278 = .ok (.invokestatic 121, 3) := dk_at k_dL_law_261 (i := 12) rfl
theorem dL_law_281 : decode cL_law 281 = .ok (.istore 5, 2) := dk_at k_dL_law_261 (i := 13) rfl
theorem dL_law_283 : decode cL_law 283 = .ok (.aload_n 2, 1) := dk_at k_dL_law_261 (i := 14) rfl
theorem dL_law_284 : decode cL_law 284 = .ok (.aload_n 0, 1) := dk_at k_dL_law_261 (i := 15) rfl
theorem dL_law_285 : decode cL_law 285 = .ok (.iload 4, 2) := dk_at k_dL_law_261 (i := 16) rfl
theorem dL_law_287 : decode cL_law 287 = .ok (.iconst 1, 1) := dk_at k_dL_law_261 (i := 17) rfl
theorem dL_law_288 : decode cL_law 288 = .ok (.iadd, 1) := dk_at k_dL_law_261 (i := 18) rfl
theorem dL_law_289 : decode cL_law 289 = .ok (.iaload, 1) := dk_at k_dL_law_261 (i := 19) rfl
theorem dL_law_290 : decode cL_law 290 = .ok (.aload_n 0, 1) := dk_at k_dL_law_261 (i := 20) rfl
theorem dL_law_291 : decode cL_law 291 = .ok (.iload 4, 2) := dk_at k_dL_law_261 (i := 21) rfl
theorem dL_law_293 : decode cL_law 293 = .ok (.iconst 2, 1) := dk_at k_dL_law_261 (i := 22) rfl
theorem dL_law_294 : decode cL_law 294 = .ok (.iadd, 1) := dk_at k_dL_law_261 (i := 23) rfl
theorem dL_law_295 : decode cL_law 295 = .ok (.iaload, 1) := dk_at k_dL_law_261 (i := 24) rfl
theorem dL_law_296 : decode cL_law 296 = .ok (.aload_n 0, 1) := dk_at k_dL_law_261 (i := 25) rfl
theorem dL_law_297 : decode cL_law 297 = .ok (.iload 4, 2) := dk_at k_dL_law_261 (i := 26) rfl
theorem dL_law_299 : decode cL_law 299 = .ok (.iconst 3, 1) := dk_at k_dL_law_261 (i := 27) rfl
theorem dL_law_300 : decode cL_law 300 = .ok (.iadd, 1) := dk_at k_dL_law_261 (i := 28) rfl
theorem dL_law_301 : decode cL_law 301 = .ok (.iaload, 1) := dk_at k_dL_law_261 (i := 29) rfl
theorem dL_law_302 : decode cL_law 302 = .ok (.aload_n 0, 1) := dk_at k_dL_law_261 (i := 30) rfl
theorem dL_law_303 : decode cL_law 303 = .ok (.iload 4, 2) := dk_at k_dL_law_261 (i := 31) rfl
theorem k_dL_law_305 : dk cL_law [(305, .iconst 4, 1), (306, .iadd, 1), (307, .iaload, 1), (308, .ifCond .eq 7, 3), (311, .iconst 1, 1), (312, .goto 4, 3), (315, .iconst 0, 1), (316, .invokevirtual 124, 3), (319, .istore 6, 2), (321, .goto 955, 3), (324, .aload_n 1, 1), (325, .aload_n 0, 1), (326, .iload 4, 2), (328, .iconst 1, 1), (329, .iadd, 1), (330, .iaload, 1), (331, .aload_n 0, 1), (332, .iload 4, 2), (334, .iconst 2, 1), (335, .iadd, 1), (336, .iaload, 1), (337, .aload_n 0, 1), (338, .iload 4, 2), (340, .iconst 3, 1), (341, .iadd, 1), (342, .iaload, 1), (343, .aload_n 0, 1), (344, .iload 4, 2), (346, .iconst 4, 1), (347, .iadd, 1), (348, .iaload, 1), (349, .aload_n 3, 1)] = true := by decide +kernel
theorem dL_law_305 : decode cL_law 305 = .ok (.iconst 4, 1) := dk_at k_dL_law_305 (i := 0) rfl
theorem dL_law_306 : decode cL_law 306 = .ok (.iadd, 1) := dk_at k_dL_law_305 (i := 1) rfl
theorem dL_law_307 : decode cL_law 307 = .ok (.iaload, 1) := dk_at k_dL_law_305 (i := 2) rfl
theorem dL_law_308 : decode cL_law 308 = .ok (.ifCond .eq 7, 3) := dk_at k_dL_law_305 (i := 3) rfl
theorem dL_law_311 : decode cL_law 311 = .ok (.iconst 1, 1) := dk_at k_dL_law_305 (i := 4) rfl
theorem dL_law_312 : decode cL_law 312 = .ok (.goto 4, 3) := dk_at k_dL_law_305 (i := 5) rfl
theorem dL_law_315 : decode cL_law 315 = .ok (.iconst 0, 1) := dk_at k_dL_law_305 (i := 6) rfl
theorem dL_law_316 : decode cL_law 316 = .ok (.invokevirtual 124, 3) := dk_at k_dL_law_305 (i := 7) rfl
theorem dL_law_319 : decode cL_law 319 = .ok (.istore 6, 2) := dk_at k_dL_law_305 (i := 8) rfl
theorem dL_law_321 : decode cL_law 321 = .ok (.goto 955, 3) := dk_at k_dL_law_305 (i := 9) rfl
theorem dL_law_324 : decode cL_law 324 = .ok (.aload_n 1, 1) := dk_at k_dL_law_305 (i := 10) rfl
theorem dL_law_325 : decode cL_law 325 = .ok (.aload_n 0, 1) := dk_at k_dL_law_305 (i := 11) rfl
theorem dL_law_326 : decode cL_law 326 = .ok (.iload 4, 2) := dk_at k_dL_law_305 (i := 12) rfl
theorem dL_law_328 : decode cL_law 328 = .ok (.iconst 1, 1) := dk_at k_dL_law_305 (i := 13) rfl
theorem dL_law_329 : decode cL_law 329 = .ok (.iadd, 1) := dk_at k_dL_law_305 (i := 14) rfl
theorem dL_law_330 : decode cL_law 330 = .ok (.iaload, 1) := dk_at k_dL_law_305 (i := 15) rfl
theorem dL_law_331 : decode cL_law 331 = .ok (.aload_n 0, 1) := dk_at k_dL_law_305 (i := 16) rfl
theorem dL_law_332 : decode cL_law 332 = .ok (.iload 4, 2) := dk_at k_dL_law_305 (i := 17) rfl
theorem dL_law_334 : decode cL_law 334 = .ok (.iconst 2, 1) := dk_at k_dL_law_305 (i := 18) rfl
theorem dL_law_335 : decode cL_law 335 = .ok (.iadd, 1) := dk_at k_dL_law_305 (i := 19) rfl
theorem dL_law_336 : decode cL_law 336 = .ok (.iaload, 1) := dk_at k_dL_law_305 (i := 20) rfl
theorem dL_law_337 : decode cL_law 337 = .ok (.aload_n 0, 1) := dk_at k_dL_law_305 (i := 21) rfl
theorem dL_law_338 : decode cL_law 338 = .ok (.iload 4, 2) := dk_at k_dL_law_305 (i := 22) rfl
theorem dL_law_340 : decode cL_law 340 = .ok (.iconst 3, 1) := dk_at k_dL_law_305 (i := 23) rfl
theorem dL_law_341 : decode cL_law 341 = .ok (.iadd, 1) := dk_at k_dL_law_305 (i := 24) rfl
theorem dL_law_342 : decode cL_law 342 = .ok (.iaload, 1) := dk_at k_dL_law_305 (i := 25) rfl
theorem dL_law_343 : decode cL_law 343 = .ok (.aload_n 0, 1) := dk_at k_dL_law_305 (i := 26) rfl
theorem dL_law_344 : decode cL_law 344 = .ok (.iload 4, 2) := dk_at k_dL_law_305 (i := 27) rfl
theorem dL_law_346 : decode cL_law 346 = .ok (.iconst 4, 1) := dk_at k_dL_law_305 (i := 28) rfl
theorem dL_law_347 : decode cL_law 347 = .ok (.iadd, 1) := dk_at k_dL_law_305 (i := 29) rfl
theorem dL_law_348 : decode cL_law 348 = .ok (.iaload, 1) := dk_at k_dL_law_305 (i := 30) rfl
theorem dL_law_349 : decode cL_law 349 = .ok (.aload_n 3, 1) := dk_at k_dL_law_305 (i := 31) rfl
theorem k_dL_law_350 : dk cL_law [(350, .invokestatic 125, 3), (353, .istore 5, 2), (355, .aload_n 2, 1), (356, .aload_n 0, 1), (357, .iload 4, 2), (359, .iconst 1, 1), (360, .iadd, 1), (361, .iaload, 1), (362, .aload_n 0, 1), (363, .iload 4, 2), (365, .iconst 2, 1), (366, .iadd, 1), (367, .iaload, 1), (368, .aload_n 0, 1), (369, .iload 4, 2), (371, .iconst 3, 1), (372, .iadd, 1), (373, .iaload, 1), (374, .aload_n 0, 1), (375, .iload 4, 2), (377, .iconst 4, 1), (378, .iadd, 1), (379, .iaload, 1), (380, .invokevirtual 128, 3), (383, .istore 6, 2), (385, .goto 891, 3), (388, .aload_n 1, 1), (389, .aload_n 0, 1), (390, .iload 4, 2), (392, .iconst 1, 1), (393, .iadd, 1), (394, .iaload, 1)] = true := by decide +kernel
theorem dL_law_350 : decode cL_law 350 = .ok (.invokestatic 125, 3) := dk_at k_dL_law_350 (i := 0) rfl
theorem dL_law_353 : decode cL_law 353 = .ok (.istore 5, 2) := dk_at k_dL_law_350 (i := 1) rfl
theorem dL_law_355 : decode cL_law 355 = .ok (.aload_n 2, 1) := dk_at k_dL_law_350 (i := 2) rfl
theorem dL_law_356 : decode cL_law 356 = .ok (.aload_n 0, 1) := dk_at k_dL_law_350 (i := 3) rfl
theorem dL_law_357 : decode cL_law 357 = .ok (.iload 4, 2) := dk_at k_dL_law_350 (i := 4) rfl
theorem dL_law_359 : decode cL_law 359 = .ok (.iconst 1, 1) := dk_at k_dL_law_350 (i := 5) rfl
theorem dL_law_360 : decode cL_law 360 = .ok (.iadd, 1) := dk_at k_dL_law_350 (i := 6) rfl
theorem dL_law_361 : decode cL_law 361 = .ok (.iaload, 1) := dk_at k_dL_law_350 (i := 7) rfl
theorem dL_law_362 : decode cL_law 362 = .ok (.aload_n 0, 1) := dk_at k_dL_law_350 (i := 8) rfl
theorem dL_law_363 : decode cL_law 363 = .ok (.iload 4, 2) := dk_at k_dL_law_350 (i := 9) rfl
theorem dL_law_365 : decode cL_law 365 = .ok (.iconst 2, 1) := dk_at k_dL_law_350 (i := 10) rfl
theorem dL_law_366 : decode cL_law 366 = .ok (.iadd, 1) := dk_at k_dL_law_350 (i := 11) rfl
theorem dL_law_367 : decode cL_law 367 = .ok (.iaload, 1) := dk_at k_dL_law_350 (i := 12) rfl
theorem dL_law_368 : decode cL_law 368 = .ok (.aload_n 0, 1) := dk_at k_dL_law_350 (i := 13) rfl
theorem dL_law_369 : decode cL_law 369 = .ok (.iload 4, 2) := dk_at k_dL_law_350 (i := 14) rfl
theorem dL_law_371 : decode cL_law 371 = .ok (.iconst 3, 1) := dk_at k_dL_law_350 (i := 15) rfl
theorem dL_law_372 : decode cL_law 372 = .ok (.iadd, 1) := dk_at k_dL_law_350 (i := 16) rfl
theorem dL_law_373 : decode cL_law 373 = .ok (.iaload, 1) := dk_at k_dL_law_350 (i := 17) rfl
theorem dL_law_374 : decode cL_law 374 = .ok (.aload_n 0, 1) := dk_at k_dL_law_350 (i := 18) rfl
theorem dL_law_375 : decode cL_law 375 = .ok (.iload 4, 2) := dk_at k_dL_law_350 (i := 19) rfl
theorem dL_law_377 : decode cL_law 377 = .ok (.iconst 4, 1) := dk_at k_dL_law_350 (i := 20) rfl
theorem dL_law_378 : decode cL_law 378 = .ok (.iadd, 1) := dk_at k_dL_law_350 (i := 21) rfl
theorem dL_law_379 : decode cL_law 379 = .ok (.iaload, 1) := dk_at k_dL_law_350 (i := 22) rfl
theorem dL_law_380 : decode cL_law 380 = .ok (.invokevirtual 128, 3) := dk_at k_dL_law_350 (i := 23) rfl
theorem dL_law_383 : decode cL_law 383 = .ok (.istore 6, 2) := dk_at k_dL_law_350 (i := 24) rfl
theorem dL_law_385 : decode cL_law 385 = .ok (.goto 891, 3) := dk_at k_dL_law_350 (i := 25) rfl
theorem dL_law_388 : decode cL_law 388 = .ok (.aload_n 1, 1) := dk_at k_dL_law_350 (i := 26) rfl
theorem dL_law_389 : decode cL_law 389 = .ok (.aload_n 0, 1) := dk_at k_dL_law_350 (i := 27) rfl
theorem dL_law_390 : decode cL_law 390 = .ok (.iload 4, 2) := dk_at k_dL_law_350 (i := 28) rfl
theorem dL_law_392 : decode cL_law 392 = .ok (.iconst 1, 1) := dk_at k_dL_law_350 (i := 29) rfl
theorem dL_law_393 : decode cL_law 393 = .ok (.iadd, 1) := dk_at k_dL_law_350 (i := 30) rfl
theorem dL_law_394 : decode cL_law 394 = .ok (.iaload, 1) := dk_at k_dL_law_350 (i := 31) rfl
theorem k_dL_law_395 : dk cL_law [(395, .aload_n 0, 1), (396, .iload 4, 2), (398, .iconst 2, 1), (399, .iadd, 1), (400, .iaload, 1), (401, .aload_n 0, 1), (402, .iload 4, 2), (404, .iconst 3, 1), (405, .iadd, 1), (406, .iaload, 1), (407, .aload_n 3, 1), (408, .invokestatic 129, 3), (411, .istore 5, 2), (413, .aload_n 2, 1), (414, .aload_n 0, 1), (415, .iload 4, 2), (417, .iconst 1, 1), (418, .iadd, 1), (419, .iaload, 1), (420, .aload_n 0, 1), (421, .iload 4, 2), (423, .iconst 2, 1), (424, .iadd, 1), (425, .iaload, 1), (426, .aload_n 0, 1), (427, .iload 4, 2), (429, .iconst 3, 1), (430, .iadd, 1), (431, .iaload, 1), (432, .invokevirtual 131, 3), (435, .istore 6, 2), (437, .aload_n 2, 1)] = true := by decide +kernel
theorem dL_law_395 : decode cL_law 395 = .ok (.aload_n 0, 1) := dk_at k_dL_law_395 (i := 0) rfl
theorem dL_law_396 : decode cL_law 396 = .ok (.iload 4, 2) := dk_at k_dL_law_395 (i := 1) rfl
theorem dL_law_398 : decode cL_law 398 = .ok (.iconst 2, 1) := dk_at k_dL_law_395 (i := 2) rfl
theorem dL_law_399 : decode cL_law 399 = .ok (.iadd, 1) := dk_at k_dL_law_395 (i := 3) rfl
theorem dL_law_400 : decode cL_law 400 = .ok (.iaload, 1) := dk_at k_dL_law_395 (i := 4) rfl
theorem dL_law_401 : decode cL_law 401 = .ok (.aload_n 0, 1) := dk_at k_dL_law_395 (i := 5) rfl
theorem dL_law_402 : decode cL_law 402 = .ok (.iload 4, 2) := dk_at k_dL_law_395 (i := 6) rfl
theorem dL_law_404 : decode cL_law 404 = .ok (.iconst 3, 1) := dk_at k_dL_law_395 (i := 7) rfl
theorem dL_law_405 : decode cL_law 405 = .ok (.iadd, 1) := dk_at k_dL_law_395 (i := 8) rfl
theorem dL_law_406 : decode cL_law 406 = .ok (.iaload, 1) := dk_at k_dL_law_395 (i := 9) rfl
theorem dL_law_407 : decode cL_law 407 = .ok (.aload_n 3, 1) := dk_at k_dL_law_395 (i := 10) rfl
theorem dL_law_408 : decode cL_law 408 = .ok (.invokestatic 129, 3) := dk_at k_dL_law_395 (i := 11) rfl
theorem dL_law_411 : decode cL_law 411 = .ok (.istore 5, 2) := dk_at k_dL_law_395 (i := 12) rfl
theorem dL_law_413 : decode cL_law 413 = .ok (.aload_n 2, 1) := dk_at k_dL_law_395 (i := 13) rfl
theorem dL_law_414 : decode cL_law 414 = .ok (.aload_n 0, 1) := dk_at k_dL_law_395 (i := 14) rfl
theorem dL_law_415 : decode cL_law 415 = .ok (.iload 4, 2) := dk_at k_dL_law_395 (i := 15) rfl
theorem dL_law_417 : decode cL_law 417 = .ok (.iconst 1, 1) := dk_at k_dL_law_395 (i := 16) rfl
theorem dL_law_418 : decode cL_law 418 = .ok (.iadd, 1) := dk_at k_dL_law_395 (i := 17) rfl
theorem dL_law_419 : decode cL_law 419 = .ok (.iaload, 1) := dk_at k_dL_law_395 (i := 18) rfl
theorem dL_law_420 : decode cL_law 420 = .ok (.aload_n 0, 1) := dk_at k_dL_law_395 (i := 19) rfl
theorem dL_law_421 : decode cL_law 421 = .ok (.iload 4, 2) := dk_at k_dL_law_395 (i := 20) rfl
theorem dL_law_423 : decode cL_law 423 = .ok (.iconst 2, 1) := dk_at k_dL_law_395 (i := 21) rfl
theorem dL_law_424 : decode cL_law 424 = .ok (.iadd, 1) := dk_at k_dL_law_395 (i := 22) rfl
theorem dL_law_425 : decode cL_law 425 = .ok (.iaload, 1) := dk_at k_dL_law_395 (i := 23) rfl
theorem dL_law_426 : decode cL_law 426 = .ok (.aload_n 0, 1) := dk_at k_dL_law_395 (i := 24) rfl
theorem dL_law_427 : decode cL_law 427 = .ok (.iload 4, 2) := dk_at k_dL_law_395 (i := 25) rfl
theorem dL_law_429 : decode cL_law 429 = .ok (.iconst 3, 1) := dk_at k_dL_law_395 (i := 26) rfl
theorem dL_law_430 : decode cL_law 430 = .ok (.iadd, 1) := dk_at k_dL_law_395 (i := 27) rfl
theorem dL_law_431 : decode cL_law 431 = .ok (.iaload, 1) := dk_at k_dL_law_395 (i := 28) rfl
theorem dL_law_432 : decode cL_law 432 = .ok (.invokevirtual 131, 3) := dk_at k_dL_law_395 (i := 29) rfl
theorem dL_law_435 : decode cL_law 435 = .ok (.istore 6, 2) := dk_at k_dL_law_395 (i := 30) rfl
theorem dL_law_437 : decode cL_law 437 = .ok (.aload_n 2, 1) := dk_at k_dL_law_395 (i := 31) rfl
theorem k_dL_law_438 : dk cL_law [(438, .invokevirtual 132, 3), (441, .iload 5, 2), (443, .if_icmp .eq 5, 3), (446, .iconst 0, 1), (447, .ireturn, 1), (448, .iload 5, 2), (450, .ifCond .ne 16, 3), (453, .aload_n 3, 1), (454, .getfield 13, 3), (457, .iload 6, 2), (459, .i2l, 1), (460, .lcmp, 1), (461, .ifCond .eq 5, 3), (464, .iconst 0, 1), (465, .ireturn, 1), (466, .goto 810, 3), (469, .aload_n 1, 1), (470, .aload_n 0, 1), (471, .iload 4, 2), (473, .iconst 1, 1), (474, .iadd, 1), (475, .iaload, 1), (476, .aload_n 0, 1), (477, .iload 4, 2), (479, .iconst 2, 1), (480, .iadd, 1), (481, .iaload, 1), (482, .aload_n 0, 1), (483, .iload 4, 2), (485, .iconst 3, 1), (486, .iadd, 1), (487, .iaload, 1)] = true := by decide +kernel
theorem dL_law_438 : decode cL_law 438 = .ok (.invokevirtual 132, 3) := dk_at k_dL_law_438 (i := 0) rfl
theorem dL_law_441 : decode cL_law 441 = .ok (.iload 5, 2) := dk_at k_dL_law_438 (i := 1) rfl
theorem dL_law_443 : decode cL_law 443 = .ok (.if_icmp .eq 5, 3) := dk_at k_dL_law_438 (i := 2) rfl
theorem dL_law_446 : decode cL_law 446 = .ok (.iconst 0, 1) := dk_at k_dL_law_438 (i := 3) rfl
theorem dL_law_447 : decode cL_law 447 = .ok (.ireturn, 1) := dk_at k_dL_law_438 (i := 4) rfl
theorem dL_law_448 : decode cL_law 448 = .ok (.iload 5, 2) := dk_at k_dL_law_438 (i := 5) rfl
theorem dL_law_450 : decode cL_law 450 = .ok (.ifCond .ne 16, 3) := dk_at k_dL_law_438 (i := 6) rfl
theorem dL_law_453 : decode cL_law 453 = .ok (.aload_n 3, 1) := dk_at k_dL_law_438 (i := 7) rfl
theorem dL_law_454 : decode cL_law 454 = .ok (.getfield 13, 3) := dk_at k_dL_law_438 (i := 8) rfl
theorem dL_law_457 : decode cL_law 457 = .ok (.iload 6, 2) := dk_at k_dL_law_438 (i := 9) rfl
theorem dL_law_459 : decode cL_law 459 = .ok (.i2l, 1) := dk_at k_dL_law_438 (i := 10) rfl
theorem dL_law_460 : decode cL_law 460 = .ok (.lcmp, 1) := dk_at k_dL_law_438 (i := 11) rfl
theorem dL_law_461 : decode cL_law 461 = .ok (.ifCond .eq 5, 3) := dk_at k_dL_law_438 (i := 12) rfl
theorem dL_law_464 : decode cL_law 464 = .ok (.iconst 0, 1) := dk_at k_dL_law_438 (i := 13) rfl
theorem dL_law_465 : decode cL_law 465 = .ok (.ireturn, 1) := dk_at k_dL_law_438 (i := 14) rfl
theorem dL_law_466 : decode cL_law 466 = .ok (.goto 810, 3) := dk_at k_dL_law_438 (i := 15) rfl
theorem dL_law_469 : decode cL_law 469 = .ok (.aload_n 1, 1) := dk_at k_dL_law_438 (i := 16) rfl
theorem dL_law_470 : decode cL_law 470 = .ok (.aload_n 0, 1) := dk_at k_dL_law_438 (i := 17) rfl
theorem dL_law_471 : decode cL_law 471 = .ok (.iload 4, 2) := dk_at k_dL_law_438 (i := 18) rfl
theorem dL_law_473 : decode cL_law 473 = .ok (.iconst 1, 1) := dk_at k_dL_law_438 (i := 19) rfl
theorem dL_law_474 : decode cL_law 474 = .ok (.iadd, 1) := dk_at k_dL_law_438 (i := 20) rfl
theorem dL_law_475 : decode cL_law 475 = .ok (.iaload, 1) := dk_at k_dL_law_438 (i := 21) rfl
theorem dL_law_476 : decode cL_law 476 = .ok (.aload_n 0, 1) := dk_at k_dL_law_438 (i := 22) rfl
theorem dL_law_477 : decode cL_law 477 = .ok (.iload 4, 2) := dk_at k_dL_law_438 (i := 23) rfl
theorem dL_law_479 : decode cL_law 479 = .ok (.iconst 2, 1) := dk_at k_dL_law_438 (i := 24) rfl
theorem dL_law_480 : decode cL_law 480 = .ok (.iadd, 1) := dk_at k_dL_law_438 (i := 25) rfl
theorem dL_law_481 : decode cL_law 481 = .ok (.iaload, 1) := dk_at k_dL_law_438 (i := 26) rfl
theorem dL_law_482 : decode cL_law 482 = .ok (.aload_n 0, 1) := dk_at k_dL_law_438 (i := 27) rfl
theorem dL_law_483 : decode cL_law 483 = .ok (.iload 4, 2) := dk_at k_dL_law_438 (i := 28) rfl
theorem dL_law_485 : decode cL_law 485 = .ok (.iconst 3, 1) := dk_at k_dL_law_438 (i := 29) rfl
theorem dL_law_486 : decode cL_law 486 = .ok (.iadd, 1) := dk_at k_dL_law_438 (i := 30) rfl
theorem dL_law_487 : decode cL_law 487 = .ok (.iaload, 1) := dk_at k_dL_law_438 (i := 31) rfl
theorem k_dL_law_488 : dk cL_law [(488, .aload_n 0, 1), (489, .iload 4, 2), (491, .iconst 4, 1), (492, .iadd, 1), (493, .iaload, 1), (494, .aload_n 3, 1), (495, .invokestatic 135, 3), (498, .istore 5, 2), (500, .aload_n 2, 1), (501, .aload_n 0, 1), (502, .iload 4, 2), (504, .iconst 1, 1), (505, .iadd, 1), (506, .iaload, 1), (507, .aload_n 0, 1), (508, .iload 4, 2), (510, .iconst 2, 1), (511, .iadd, 1), (512, .iaload, 1), (513, .aload_n 0, 1), (514, .iload 4, 2), (516, .iconst 3, 1), (517, .iadd, 1), (518, .iaload, 1), (519, .aload_n 0, 1), (520, .iload 4, 2), (522, .iconst 4, 1), (523, .iadd, 1), (524, .iaload, 1), (525, .invokevirtual 137, 3), (528, .istore 6, 2), (530, .goto 746, 3)] = true := by decide +kernel
theorem dL_law_488 : decode cL_law 488 = .ok (.aload_n 0, 1) := dk_at k_dL_law_488 (i := 0) rfl
theorem dL_law_489 : decode cL_law 489 = .ok (.iload 4, 2) := dk_at k_dL_law_488 (i := 1) rfl
theorem dL_law_491 : decode cL_law 491 = .ok (.iconst 4, 1) := dk_at k_dL_law_488 (i := 2) rfl
theorem dL_law_492 : decode cL_law 492 = .ok (.iadd, 1) := dk_at k_dL_law_488 (i := 3) rfl
theorem dL_law_493 : decode cL_law 493 = .ok (.iaload, 1) := dk_at k_dL_law_488 (i := 4) rfl
theorem dL_law_494 : decode cL_law 494 = .ok (.aload_n 3, 1) := dk_at k_dL_law_488 (i := 5) rfl
theorem dL_law_495 : decode cL_law 495 = .ok (.invokestatic 135, 3) := dk_at k_dL_law_488 (i := 6) rfl
theorem dL_law_498 : decode cL_law 498 = .ok (.istore 5, 2) := dk_at k_dL_law_488 (i := 7) rfl
theorem dL_law_500 : decode cL_law 500 = .ok (.aload_n 2, 1) := dk_at k_dL_law_488 (i := 8) rfl
theorem dL_law_501 : decode cL_law 501 = .ok (.aload_n 0, 1) := dk_at k_dL_law_488 (i := 9) rfl
theorem dL_law_502 : decode cL_law 502 = .ok (.iload 4, 2) := dk_at k_dL_law_488 (i := 10) rfl
theorem dL_law_504 : decode cL_law 504 = .ok (.iconst 1, 1) := dk_at k_dL_law_488 (i := 11) rfl
theorem dL_law_505 : decode cL_law 505 = .ok (.iadd, 1) := dk_at k_dL_law_488 (i := 12) rfl
theorem dL_law_506 : decode cL_law 506 = .ok (.iaload, 1) := dk_at k_dL_law_488 (i := 13) rfl
theorem dL_law_507 : decode cL_law 507 = .ok (.aload_n 0, 1) := dk_at k_dL_law_488 (i := 14) rfl
theorem dL_law_508 : decode cL_law 508 = .ok (.iload 4, 2) := dk_at k_dL_law_488 (i := 15) rfl
theorem dL_law_510 : decode cL_law 510 = .ok (.iconst 2, 1) := dk_at k_dL_law_488 (i := 16) rfl
theorem dL_law_511 : decode cL_law 511 = .ok (.iadd, 1) := dk_at k_dL_law_488 (i := 17) rfl
theorem dL_law_512 : decode cL_law 512 = .ok (.iaload, 1) := dk_at k_dL_law_488 (i := 18) rfl
theorem dL_law_513 : decode cL_law 513 = .ok (.aload_n 0, 1) := dk_at k_dL_law_488 (i := 19) rfl
theorem dL_law_514 : decode cL_law 514 = .ok (.iload 4, 2) := dk_at k_dL_law_488 (i := 20) rfl
theorem dL_law_516 : decode cL_law 516 = .ok (.iconst 3, 1) := dk_at k_dL_law_488 (i := 21) rfl
theorem dL_law_517 : decode cL_law 517 = .ok (.iadd, 1) := dk_at k_dL_law_488 (i := 22) rfl
theorem dL_law_518 : decode cL_law 518 = .ok (.iaload, 1) := dk_at k_dL_law_488 (i := 23) rfl
theorem dL_law_519 : decode cL_law 519 = .ok (.aload_n 0, 1) := dk_at k_dL_law_488 (i := 24) rfl
theorem dL_law_520 : decode cL_law 520 = .ok (.iload 4, 2) := dk_at k_dL_law_488 (i := 25) rfl
theorem dL_law_522 : decode cL_law 522 = .ok (.iconst 4, 1) := dk_at k_dL_law_488 (i := 26) rfl
theorem dL_law_523 : decode cL_law 523 = .ok (.iadd, 1) := dk_at k_dL_law_488 (i := 27) rfl
theorem dL_law_524 : decode cL_law 524 = .ok (.iaload, 1) := dk_at k_dL_law_488 (i := 28) rfl
theorem dL_law_525 : decode cL_law 525 = .ok (.invokevirtual 137, 3) := dk_at k_dL_law_488 (i := 29) rfl
theorem dL_law_528 : decode cL_law 528 = .ok (.istore 6, 2) := dk_at k_dL_law_488 (i := 30) rfl
theorem dL_law_530 : decode cL_law 530 = .ok (.goto 746, 3) := dk_at k_dL_law_488 (i := 31) rfl
theorem k_dL_law_533 : dk cL_law [(533, .aload_n 1, 1), (534, .aload_n 0, 1), (535, .iload 4, 2), (537, .iconst 1, 1), (538, .iadd, 1), (539, .iaload, 1), (540, .aload_n 0, 1), (541, .iload 4, 2), (543, .iconst 2, 1), (544, .iadd, 1), (545, .iaload, 1), (546, .ifCond .eq 7, 3), (549, .iconst 1, 1), (550, .goto 4, 3), (553, .iconst 0, 1), (554, .aload_n 3, 1), (555, .invokestatic 138, 3), (558, .istore 5, 2), (560, .aload_n 2, 1), (561, .aload_n 0, 1), (562, .iload 4, 2), (564, .iconst 1, 1), (565, .iadd, 1), (566, .iaload, 1), (567, .aload_n 0, 1), (568, .iload 4, 2), (570, .iconst 2, 1), (571, .iadd, 1), (572, .iaload, 1), (573, .ifCond .eq 7, 3), (576, .iconst 1, 1), (577, .goto 4, 3)] = true := by decide +kernel
theorem dL_law_533 : decode cL_law 533 = .ok (.aload_n 1, 1) := dk_at k_dL_law_533 (i := 0) rfl
theorem dL_law_534 : decode cL_law 534 = .ok (.aload_n 0, 1) := dk_at k_dL_law_533 (i := 1) rfl
theorem dL_law_535 : decode cL_law 535 = .ok (.iload 4, 2) := dk_at k_dL_law_533 (i := 2) rfl
theorem dL_law_537 : decode cL_law 537 = .ok (.iconst 1, 1) := dk_at k_dL_law_533 (i := 3) rfl
theorem dL_law_538 : decode cL_law 538 = .ok (.iadd, 1) := dk_at k_dL_law_533 (i := 4) rfl
theorem dL_law_539 : decode cL_law 539 = .ok (.iaload, 1) := dk_at k_dL_law_533 (i := 5) rfl
theorem dL_law_540 : decode cL_law 540 = .ok (.aload_n 0, 1) := dk_at k_dL_law_533 (i := 6) rfl
theorem dL_law_541 : decode cL_law 541 = .ok (.iload 4, 2) := dk_at k_dL_law_533 (i := 7) rfl
theorem dL_law_543 : decode cL_law 543 = .ok (.iconst 2, 1) := dk_at k_dL_law_533 (i := 8) rfl
theorem dL_law_544 : decode cL_law 544 = .ok (.iadd, 1) := dk_at k_dL_law_533 (i := 9) rfl
theorem dL_law_545 : decode cL_law 545 = .ok (.iaload, 1) := dk_at k_dL_law_533 (i := 10) rfl
theorem dL_law_546 : decode cL_law 546 = .ok (.ifCond .eq 7, 3) := dk_at k_dL_law_533 (i := 11) rfl
theorem dL_law_549 : decode cL_law 549 = .ok (.iconst 1, 1) := dk_at k_dL_law_533 (i := 12) rfl
theorem dL_law_550 : decode cL_law 550 = .ok (.goto 4, 3) := dk_at k_dL_law_533 (i := 13) rfl
theorem dL_law_553 : decode cL_law 553 = .ok (.iconst 0, 1) := dk_at k_dL_law_533 (i := 14) rfl
theorem dL_law_554 : decode cL_law 554 = .ok (.aload_n 3, 1) := dk_at k_dL_law_533 (i := 15) rfl
theorem dL_law_555 : decode cL_law 555 = .ok (.invokestatic 138, 3) := dk_at k_dL_law_533 (i := 16) rfl
theorem dL_law_558 : decode cL_law 558 = .ok (.istore 5, 2) := dk_at k_dL_law_533 (i := 17) rfl
theorem dL_law_560 : decode cL_law 560 = .ok (.aload_n 2, 1) := dk_at k_dL_law_533 (i := 18) rfl
theorem dL_law_561 : decode cL_law 561 = .ok (.aload_n 0, 1) := dk_at k_dL_law_533 (i := 19) rfl
theorem dL_law_562 : decode cL_law 562 = .ok (.iload 4, 2) := dk_at k_dL_law_533 (i := 20) rfl
theorem dL_law_564 : decode cL_law 564 = .ok (.iconst 1, 1) := dk_at k_dL_law_533 (i := 21) rfl
theorem dL_law_565 : decode cL_law 565 = .ok (.iadd, 1) := dk_at k_dL_law_533 (i := 22) rfl
theorem dL_law_566 : decode cL_law 566 = .ok (.iaload, 1) := dk_at k_dL_law_533 (i := 23) rfl
theorem dL_law_567 : decode cL_law 567 = .ok (.aload_n 0, 1) := dk_at k_dL_law_533 (i := 24) rfl
theorem dL_law_568 : decode cL_law 568 = .ok (.iload 4, 2) := dk_at k_dL_law_533 (i := 25) rfl
theorem dL_law_570 : decode cL_law 570 = .ok (.iconst 2, 1) := dk_at k_dL_law_533 (i := 26) rfl
theorem dL_law_571 : decode cL_law 571 = .ok (.iadd, 1) := dk_at k_dL_law_533 (i := 27) rfl
theorem dL_law_572 : decode cL_law 572 = .ok (.iaload, 1) := dk_at k_dL_law_533 (i := 28) rfl
theorem dL_law_573 : decode cL_law 573 = .ok (.ifCond .eq 7, 3) := dk_at k_dL_law_533 (i := 29) rfl
theorem dL_law_576 : decode cL_law 576 = .ok (.iconst 1, 1) := dk_at k_dL_law_533 (i := 30) rfl
theorem dL_law_577 : decode cL_law 577 = .ok (.goto 4, 3) := dk_at k_dL_law_533 (i := 31) rfl
theorem k_dL_law_580 : dk cL_law [(580, .iconst 0, 1), (581, .invokevirtual 141, 3), (584, .istore 6, 2), (586, .goto 690, 3), (589, .aload_n 1, 1), (590, .aload_n 0, 1), (591, .iload 4, 2), (593, .iconst 1, 1), (594, .iadd, 1), (595, .iaload, 1), (596, .aload_n 0, 1), (597, .iload 4, 2), (599, .iconst 2, 1), (600, .iadd, 1), (601, .iaload, 1), (602, .ifCond .eq 7, 3), (605, .iconst 1, 1), (606, .goto 4, 3), (609, .iconst 0, 1), (610, .aload_n 3, 1), (611, .invokestatic 142, 3), (614, .istore 5, 2), (616, .aload_n 2, 1), (617, .aload_n 0, 1), (618, .iload 4, 2), (620, .iconst 1, 1), (621, .iadd, 1), (622, .iaload, 1), (623, .aload_n 0, 1), (624, .iload 4, 2), (626, .iconst 2, 1), (627, .iadd, 1)] = true := by decide +kernel
theorem dL_law_580 : decode cL_law 580 = .ok (.iconst 0, 1) := dk_at k_dL_law_580 (i := 0) rfl
theorem dL_law_581 : decode cL_law 581 = .ok (.invokevirtual 141, 3) := dk_at k_dL_law_580 (i := 1) rfl
theorem dL_law_584 : decode cL_law 584 = .ok (.istore 6, 2) := dk_at k_dL_law_580 (i := 2) rfl
theorem dL_law_586 : decode cL_law 586 = .ok (.goto 690, 3) := dk_at k_dL_law_580 (i := 3) rfl
theorem dL_law_589 : decode cL_law 589 = .ok (.aload_n 1, 1) := dk_at k_dL_law_580 (i := 4) rfl
theorem dL_law_590 : decode cL_law 590 = .ok (.aload_n 0, 1) := dk_at k_dL_law_580 (i := 5) rfl
theorem dL_law_591 : decode cL_law 591 = .ok (.iload 4, 2) := dk_at k_dL_law_580 (i := 6) rfl
theorem dL_law_593 : decode cL_law 593 = .ok (.iconst 1, 1) := dk_at k_dL_law_580 (i := 7) rfl
theorem dL_law_594 : decode cL_law 594 = .ok (.iadd, 1) := dk_at k_dL_law_580 (i := 8) rfl
theorem dL_law_595 : decode cL_law 595 = .ok (.iaload, 1) := dk_at k_dL_law_580 (i := 9) rfl
theorem dL_law_596 : decode cL_law 596 = .ok (.aload_n 0, 1) := dk_at k_dL_law_580 (i := 10) rfl
theorem dL_law_597 : decode cL_law 597 = .ok (.iload 4, 2) := dk_at k_dL_law_580 (i := 11) rfl
theorem dL_law_599 : decode cL_law 599 = .ok (.iconst 2, 1) := dk_at k_dL_law_580 (i := 12) rfl
theorem dL_law_600 : decode cL_law 600 = .ok (.iadd, 1) := dk_at k_dL_law_580 (i := 13) rfl
theorem dL_law_601 : decode cL_law 601 = .ok (.iaload, 1) := dk_at k_dL_law_580 (i := 14) rfl
theorem dL_law_602 : decode cL_law 602 = .ok (.ifCond .eq 7, 3) := dk_at k_dL_law_580 (i := 15) rfl
theorem dL_law_605 : decode cL_law 605 = .ok (.iconst 1, 1) := dk_at k_dL_law_580 (i := 16) rfl
theorem dL_law_606 : decode cL_law 606 = .ok (.goto 4, 3) := dk_at k_dL_law_580 (i := 17) rfl
theorem dL_law_609 : decode cL_law 609 = .ok (.iconst 0, 1) := dk_at k_dL_law_580 (i := 18) rfl
theorem dL_law_610 : decode cL_law 610 = .ok (.aload_n 3, 1) := dk_at k_dL_law_580 (i := 19) rfl
theorem dL_law_611 : decode cL_law 611 = .ok (.invokestatic 142, 3) := dk_at k_dL_law_580 (i := 20) rfl
theorem dL_law_614 : decode cL_law 614 = .ok (.istore 5, 2) := dk_at k_dL_law_580 (i := 21) rfl
theorem dL_law_616 : decode cL_law 616 = .ok (.aload_n 2, 1) := dk_at k_dL_law_580 (i := 22) rfl
theorem dL_law_617 : decode cL_law 617 = .ok (.aload_n 0, 1) := dk_at k_dL_law_580 (i := 23) rfl
theorem dL_law_618 : decode cL_law 618 = .ok (.iload 4, 2) := dk_at k_dL_law_580 (i := 24) rfl
theorem dL_law_620 : decode cL_law 620 = .ok (.iconst 1, 1) := dk_at k_dL_law_580 (i := 25) rfl
theorem dL_law_621 : decode cL_law 621 = .ok (.iadd, 1) := dk_at k_dL_law_580 (i := 26) rfl
theorem dL_law_622 : decode cL_law 622 = .ok (.iaload, 1) := dk_at k_dL_law_580 (i := 27) rfl
theorem dL_law_623 : decode cL_law 623 = .ok (.aload_n 0, 1) := dk_at k_dL_law_580 (i := 28) rfl
theorem dL_law_624 : decode cL_law 624 = .ok (.iload 4, 2) := dk_at k_dL_law_580 (i := 29) rfl
theorem dL_law_626 : decode cL_law 626 = .ok (.iconst 2, 1) := dk_at k_dL_law_580 (i := 30) rfl
theorem dL_law_627 : decode cL_law 627 = .ok (.iadd, 1) := dk_at k_dL_law_580 (i := 31) rfl
theorem k_dL_law_628 : dk cL_law [(628, .iaload, 1), (629, .ifCond .eq 7, 3), (632, .iconst 1, 1), (633, .goto 4, 3), (636, .iconst 0, 1), (637, .invokevirtual 144, 3), (640, .istore 6, 2), (642, .goto 634, 3), (645, .aload_n 1, 1), (646, .aload_n 0, 1), (647, .iload 4, 2), (649, .iconst 1, 1), (650, .iadd, 1), (651, .iaload, 1), (652, .aload_n 0, 1), (653, .iload 4, 2), (655, .iconst 2, 1), (656, .iadd, 1), (657, .iaload, 1), (658, .aload_n 3, 1), (659, .invokestatic 145, 3), (662, .istore 5, 2), (664, .aload_n 2, 1), (665, .aload_n 0, 1), (666, .iload 4, 2), (668, .iconst 1, 1), (669, .iadd, 1), (670, .iaload, 1), (671, .aload_n 0, 1), (672, .iload 4, 2), (674, .iconst 2, 1), (675, .iadd, 1)] = true := by decide +kernel
theorem dL_law_628 : decode cL_law 628 = .ok (.iaload, 1) := dk_at k_dL_law_628 (i := 0) rfl
theorem dL_law_629 : decode cL_law 629 = .ok (.ifCond .eq 7, 3) := dk_at k_dL_law_628 (i := 1) rfl
theorem dL_law_632 : decode cL_law 632 = .ok (.iconst 1, 1) := dk_at k_dL_law_628 (i := 2) rfl
theorem dL_law_633 : decode cL_law 633 = .ok (.goto 4, 3) := dk_at k_dL_law_628 (i := 3) rfl
theorem dL_law_636 : decode cL_law 636 = .ok (.iconst 0, 1) := dk_at k_dL_law_628 (i := 4) rfl
theorem dL_law_637 : decode cL_law 637 = .ok (.invokevirtual 144, 3) := dk_at k_dL_law_628 (i := 5) rfl
theorem dL_law_640 : decode cL_law 640 = .ok (.istore 6, 2) := dk_at k_dL_law_628 (i := 6) rfl
theorem dL_law_642 : decode cL_law 642 = .ok (.goto 634, 3) := dk_at k_dL_law_628 (i := 7) rfl
theorem dL_law_645 : decode cL_law 645 = .ok (.aload_n 1, 1) := dk_at k_dL_law_628 (i := 8) rfl
theorem dL_law_646 : decode cL_law 646 = .ok (.aload_n 0, 1) := dk_at k_dL_law_628 (i := 9) rfl
theorem dL_law_647 : decode cL_law 647 = .ok (.iload 4, 2) := dk_at k_dL_law_628 (i := 10) rfl
theorem dL_law_649 : decode cL_law 649 = .ok (.iconst 1, 1) := dk_at k_dL_law_628 (i := 11) rfl
theorem dL_law_650 : decode cL_law 650 = .ok (.iadd, 1) := dk_at k_dL_law_628 (i := 12) rfl
theorem dL_law_651 : decode cL_law 651 = .ok (.iaload, 1) := dk_at k_dL_law_628 (i := 13) rfl
theorem dL_law_652 : decode cL_law 652 = .ok (.aload_n 0, 1) := dk_at k_dL_law_628 (i := 14) rfl
theorem dL_law_653 : decode cL_law 653 = .ok (.iload 4, 2) := dk_at k_dL_law_628 (i := 15) rfl
theorem dL_law_655 : decode cL_law 655 = .ok (.iconst 2, 1) := dk_at k_dL_law_628 (i := 16) rfl
theorem dL_law_656 : decode cL_law 656 = .ok (.iadd, 1) := dk_at k_dL_law_628 (i := 17) rfl
theorem dL_law_657 : decode cL_law 657 = .ok (.iaload, 1) := dk_at k_dL_law_628 (i := 18) rfl
theorem dL_law_658 : decode cL_law 658 = .ok (.aload_n 3, 1) := dk_at k_dL_law_628 (i := 19) rfl
theorem dL_law_659 : decode cL_law 659 = .ok (.invokestatic 145, 3) := dk_at k_dL_law_628 (i := 20) rfl
theorem dL_law_662 : decode cL_law 662 = .ok (.istore 5, 2) := dk_at k_dL_law_628 (i := 21) rfl
theorem dL_law_664 : decode cL_law 664 = .ok (.aload_n 2, 1) := dk_at k_dL_law_628 (i := 22) rfl
theorem dL_law_665 : decode cL_law 665 = .ok (.aload_n 0, 1) := dk_at k_dL_law_628 (i := 23) rfl
theorem dL_law_666 : decode cL_law 666 = .ok (.iload 4, 2) := dk_at k_dL_law_628 (i := 24) rfl
theorem dL_law_668 : decode cL_law 668 = .ok (.iconst 1, 1) := dk_at k_dL_law_628 (i := 25) rfl
theorem dL_law_669 : decode cL_law 669 = .ok (.iadd, 1) := dk_at k_dL_law_628 (i := 26) rfl
theorem dL_law_670 : decode cL_law 670 = .ok (.iaload, 1) := dk_at k_dL_law_628 (i := 27) rfl
theorem dL_law_671 : decode cL_law 671 = .ok (.aload_n 0, 1) := dk_at k_dL_law_628 (i := 28) rfl
theorem dL_law_672 : decode cL_law 672 = .ok (.iload 4, 2) := dk_at k_dL_law_628 (i := 29) rfl
theorem dL_law_674 : decode cL_law 674 = .ok (.iconst 2, 1) := dk_at k_dL_law_628 (i := 30) rfl
theorem dL_law_675 : decode cL_law 675 = .ok (.iadd, 1) := dk_at k_dL_law_628 (i := 31) rfl
theorem k_dL_law_676 : dk cL_law [(676, .iaload, 1), (677, .invokevirtual 148, 3), (680, .istore 6, 2), (682, .goto 594, 3), (685, .aload_n 1, 1), (686, .aload_n 3, 1), (687, .invokestatic 149, 3), (690, .istore 5, 2), (692, .aload_n 2, 1), (693, .invokevirtual 152, 3), (696, .istore 6, 2), (698, .goto 578, 3), (701, .aload_n 1, 1), (702, .aload_n 0, 1), (703, .iload 4, 2), (705, .iconst 1, 1), (706, .iadd, 1), (707, .iaload, 1), (708, .aload_n 0, 1), (709, .iload 4, 2), (711, .iconst 2, 1), (712, .iadd, 1), (713, .iaload, 1), (714, .aload_n 3, 1), (715, .invokestatic 153, 3), (718, .istore 5, 2), (720, .aload_n 2, 1), (721, .aload_n 0, 1), (722, .iload 4, 2), (724, .iconst 1, 1), (725, .iadd, 1), (726, .iaload, 1)] = true := by decide +kernel
theorem dL_law_676 : decode cL_law 676 = .ok (.iaload, 1) := dk_at k_dL_law_676 (i := 0) rfl
theorem dL_law_677 : decode cL_law 677 = .ok (.invokevirtual 148, 3) := dk_at k_dL_law_676 (i := 1) rfl
theorem dL_law_680 : decode cL_law 680 = .ok (.istore 6, 2) := dk_at k_dL_law_676 (i := 2) rfl
theorem dL_law_682 : decode cL_law 682 = .ok (.goto 594, 3) := dk_at k_dL_law_676 (i := 3) rfl
theorem dL_law_685 : decode cL_law 685 = .ok (.aload_n 1, 1) := dk_at k_dL_law_676 (i := 4) rfl
theorem dL_law_686 : decode cL_law 686 = .ok (.aload_n 3, 1) := dk_at k_dL_law_676 (i := 5) rfl
theorem dL_law_687 : decode cL_law 687 = .ok (.invokestatic 149, 3) := dk_at k_dL_law_676 (i := 6) rfl
theorem dL_law_690 : decode cL_law 690 = .ok (.istore 5, 2) := dk_at k_dL_law_676 (i := 7) rfl
theorem dL_law_692 : decode cL_law 692 = .ok (.aload_n 2, 1) := dk_at k_dL_law_676 (i := 8) rfl
theorem dL_law_693 : decode cL_law 693 = .ok (.invokevirtual 152, 3) := dk_at k_dL_law_676 (i := 9) rfl
theorem dL_law_696 : decode cL_law 696 = .ok (.istore 6, 2) := dk_at k_dL_law_676 (i := 10) rfl
theorem dL_law_698 : decode cL_law 698 = .ok (.goto 578, 3) := dk_at k_dL_law_676 (i := 11) rfl
theorem dL_law_701 : decode cL_law 701 = .ok (.aload_n 1, 1) := dk_at k_dL_law_676 (i := 12) rfl
theorem dL_law_702 : decode cL_law 702 = .ok (.aload_n 0, 1) := dk_at k_dL_law_676 (i := 13) rfl
theorem dL_law_703 : decode cL_law 703 = .ok (.iload 4, 2) := dk_at k_dL_law_676 (i := 14) rfl
theorem dL_law_705 : decode cL_law 705 = .ok (.iconst 1, 1) := dk_at k_dL_law_676 (i := 15) rfl
theorem dL_law_706 : decode cL_law 706 = .ok (.iadd, 1) := dk_at k_dL_law_676 (i := 16) rfl
theorem dL_law_707 : decode cL_law 707 = .ok (.iaload, 1) := dk_at k_dL_law_676 (i := 17) rfl
theorem dL_law_708 : decode cL_law 708 = .ok (.aload_n 0, 1) := dk_at k_dL_law_676 (i := 18) rfl
theorem dL_law_709 : decode cL_law 709 = .ok (.iload 4, 2) := dk_at k_dL_law_676 (i := 19) rfl
theorem dL_law_711 : decode cL_law 711 = .ok (.iconst 2, 1) := dk_at k_dL_law_676 (i := 20) rfl
theorem dL_law_712 : decode cL_law 712 = .ok (.iadd, 1) := dk_at k_dL_law_676 (i := 21) rfl
theorem dL_law_713 : decode cL_law 713 = .ok (.iaload, 1) := dk_at k_dL_law_676 (i := 22) rfl
theorem dL_law_714 : decode cL_law 714 = .ok (.aload_n 3, 1) := dk_at k_dL_law_676 (i := 23) rfl
theorem dL_law_715 : decode cL_law 715 = .ok (.invokestatic 153, 3) := dk_at k_dL_law_676 (i := 24) rfl
theorem dL_law_718 : decode cL_law 718 = .ok (.istore 5, 2) := dk_at k_dL_law_676 (i := 25) rfl
theorem dL_law_720 : decode cL_law 720 = .ok (.aload_n 2, 1) := dk_at k_dL_law_676 (i := 26) rfl
theorem dL_law_721 : decode cL_law 721 = .ok (.aload_n 0, 1) := dk_at k_dL_law_676 (i := 27) rfl
theorem dL_law_722 : decode cL_law 722 = .ok (.iload 4, 2) := dk_at k_dL_law_676 (i := 28) rfl
theorem dL_law_724 : decode cL_law 724 = .ok (.iconst 1, 1) := dk_at k_dL_law_676 (i := 29) rfl
theorem dL_law_725 : decode cL_law 725 = .ok (.iadd, 1) := dk_at k_dL_law_676 (i := 30) rfl
theorem dL_law_726 : decode cL_law 726 = .ok (.iaload, 1) := dk_at k_dL_law_676 (i := 31) rfl
theorem k_dL_law_727 : dk cL_law [(727, .aload_n 0, 1), (728, .iload 4, 2), (730, .iconst 2, 1), (731, .iadd, 1), (732, .iaload, 1), (733, .invokevirtual 155, 3), (736, .istore 6, 2), (738, .goto 538, 3), (741, .aload_n 1, 1), (742, .aload_n 0, 1), (743, .iload 4, 2), (745, .iconst 1, 1), (746, .iadd, 1), (747, .iaload, 1), (748, .aload_n 0, 1), (749, .iload 4, 2), (751, .iconst 2, 1), (752, .iadd, 1), (753, .iaload, 1), (754, .aload_n 0, 1), (755, .iload 4, 2), (757, .iconst 3, 1), (758, .iadd, 1), (759, .iaload, 1), (760, .aload_n 3, 1), (761, .invokestatic 156, 3), (764, .istore 5, 2), (766, .aload_n 2, 1), (767, .aload_n 0, 1), (768, .iload 4, 2), (770, .iconst 1, 1), (771, .iadd, 1)] = true := by decide +kernel
theorem dL_law_727 : decode cL_law 727 = .ok (.aload_n 0, 1) := dk_at k_dL_law_727 (i := 0) rfl
theorem dL_law_728 : decode cL_law 728 = .ok (.iload 4, 2) := dk_at k_dL_law_727 (i := 1) rfl
theorem dL_law_730 : decode cL_law 730 = .ok (.iconst 2, 1) := dk_at k_dL_law_727 (i := 2) rfl
theorem dL_law_731 : decode cL_law 731 = .ok (.iadd, 1) := dk_at k_dL_law_727 (i := 3) rfl
theorem dL_law_732 : decode cL_law 732 = .ok (.iaload, 1) := dk_at k_dL_law_727 (i := 4) rfl
theorem dL_law_733 : decode cL_law 733 = .ok (.invokevirtual 155, 3) := dk_at k_dL_law_727 (i := 5) rfl
theorem dL_law_736 : decode cL_law 736 = .ok (.istore 6, 2) := dk_at k_dL_law_727 (i := 6) rfl
theorem dL_law_738 : decode cL_law 738 = .ok (.goto 538, 3) := dk_at k_dL_law_727 (i := 7) rfl
theorem dL_law_741 : decode cL_law 741 = .ok (.aload_n 1, 1) := dk_at k_dL_law_727 (i := 8) rfl
theorem dL_law_742 : decode cL_law 742 = .ok (.aload_n 0, 1) := dk_at k_dL_law_727 (i := 9) rfl
theorem dL_law_743 : decode cL_law 743 = .ok (.iload 4, 2) := dk_at k_dL_law_727 (i := 10) rfl
theorem dL_law_745 : decode cL_law 745 = .ok (.iconst 1, 1) := dk_at k_dL_law_727 (i := 11) rfl
theorem dL_law_746 : decode cL_law 746 = .ok (.iadd, 1) := dk_at k_dL_law_727 (i := 12) rfl
theorem dL_law_747 : decode cL_law 747 = .ok (.iaload, 1) := dk_at k_dL_law_727 (i := 13) rfl
theorem dL_law_748 : decode cL_law 748 = .ok (.aload_n 0, 1) := dk_at k_dL_law_727 (i := 14) rfl
theorem dL_law_749 : decode cL_law 749 = .ok (.iload 4, 2) := dk_at k_dL_law_727 (i := 15) rfl
theorem dL_law_751 : decode cL_law 751 = .ok (.iconst 2, 1) := dk_at k_dL_law_727 (i := 16) rfl
theorem dL_law_752 : decode cL_law 752 = .ok (.iadd, 1) := dk_at k_dL_law_727 (i := 17) rfl
theorem dL_law_753 : decode cL_law 753 = .ok (.iaload, 1) := dk_at k_dL_law_727 (i := 18) rfl
theorem dL_law_754 : decode cL_law 754 = .ok (.aload_n 0, 1) := dk_at k_dL_law_727 (i := 19) rfl
theorem dL_law_755 : decode cL_law 755 = .ok (.iload 4, 2) := dk_at k_dL_law_727 (i := 20) rfl
theorem dL_law_757 : decode cL_law 757 = .ok (.iconst 3, 1) := dk_at k_dL_law_727 (i := 21) rfl
theorem dL_law_758 : decode cL_law 758 = .ok (.iadd, 1) := dk_at k_dL_law_727 (i := 22) rfl
theorem dL_law_759 : decode cL_law 759 = .ok (.iaload, 1) := dk_at k_dL_law_727 (i := 23) rfl
theorem dL_law_760 : decode cL_law 760 = .ok (.aload_n 3, 1) := dk_at k_dL_law_727 (i := 24) rfl
theorem dL_law_761 : decode cL_law 761 = .ok (.invokestatic 156, 3) := dk_at k_dL_law_727 (i := 25) rfl
theorem dL_law_764 : decode cL_law 764 = .ok (.istore 5, 2) := dk_at k_dL_law_727 (i := 26) rfl
theorem dL_law_766 : decode cL_law 766 = .ok (.aload_n 2, 1) := dk_at k_dL_law_727 (i := 27) rfl
theorem dL_law_767 : decode cL_law 767 = .ok (.aload_n 0, 1) := dk_at k_dL_law_727 (i := 28) rfl
theorem dL_law_768 : decode cL_law 768 = .ok (.iload 4, 2) := dk_at k_dL_law_727 (i := 29) rfl
theorem dL_law_770 : decode cL_law 770 = .ok (.iconst 1, 1) := dk_at k_dL_law_727 (i := 30) rfl
theorem dL_law_771 : decode cL_law 771 = .ok (.iadd, 1) := dk_at k_dL_law_727 (i := 31) rfl
theorem k_dL_law_772 : dk cL_law [(772, .iaload, 1), (773, .aload_n 0, 1), (774, .iload 4, 2), (776, .iconst 2, 1), (777, .iadd, 1), (778, .iaload, 1), (779, .aload_n 0, 1), (780, .iload 4, 2), (782, .iconst 3, 1), (783, .iadd, 1), (784, .iaload, 1), (785, .invokevirtual 158, 3), (788, .istore 6, 2), (790, .goto 486, 3), (793, .aload_n 1, 1), (794, .aload_n 0, 1), (795, .iload 4, 2), (797, .iconst 1, 1), (798, .iadd, 1), (799, .iaload, 1), (800, .aload_n 0, 1), (801, .iload 4, 2), (803, .iconst 2, 1), (804, .iadd, 1), (805, .iaload, 1), (806, .aload_n 3, 1), (807, .invokestatic 159, 3), (810, .istore 5, 2), (812, .aload_n 2, 1), (813, .aload_n 0, 1), (814, .iload 4, 2), (816, .iconst 1, 1)] = true := by decide +kernel
theorem dL_law_772 : decode cL_law 772 = .ok (.iaload, 1) := dk_at k_dL_law_772 (i := 0) rfl
theorem dL_law_773 : decode cL_law 773 = .ok (.aload_n 0, 1) := dk_at k_dL_law_772 (i := 1) rfl
theorem dL_law_774 : decode cL_law 774 = .ok (.iload 4, 2) := dk_at k_dL_law_772 (i := 2) rfl
theorem dL_law_776 : decode cL_law 776 = .ok (.iconst 2, 1) := dk_at k_dL_law_772 (i := 3) rfl
theorem dL_law_777 : decode cL_law 777 = .ok (.iadd, 1) := dk_at k_dL_law_772 (i := 4) rfl
theorem dL_law_778 : decode cL_law 778 = .ok (.iaload, 1) := dk_at k_dL_law_772 (i := 5) rfl
theorem dL_law_779 : decode cL_law 779 = .ok (.aload_n 0, 1) := dk_at k_dL_law_772 (i := 6) rfl
theorem dL_law_780 : decode cL_law 780 = .ok (.iload 4, 2) := dk_at k_dL_law_772 (i := 7) rfl
theorem dL_law_782 : decode cL_law 782 = .ok (.iconst 3, 1) := dk_at k_dL_law_772 (i := 8) rfl
theorem dL_law_783 : decode cL_law 783 = .ok (.iadd, 1) := dk_at k_dL_law_772 (i := 9) rfl
theorem dL_law_784 : decode cL_law 784 = .ok (.iaload, 1) := dk_at k_dL_law_772 (i := 10) rfl
theorem dL_law_785 : decode cL_law 785 = .ok (.invokevirtual 158, 3) := dk_at k_dL_law_772 (i := 11) rfl
theorem dL_law_788 : decode cL_law 788 = .ok (.istore 6, 2) := dk_at k_dL_law_772 (i := 12) rfl
theorem dL_law_790 : decode cL_law 790 = .ok (.goto 486, 3) := dk_at k_dL_law_772 (i := 13) rfl
theorem dL_law_793 : decode cL_law 793 = .ok (.aload_n 1, 1) := dk_at k_dL_law_772 (i := 14) rfl
theorem dL_law_794 : decode cL_law 794 = .ok (.aload_n 0, 1) := dk_at k_dL_law_772 (i := 15) rfl
theorem dL_law_795 : decode cL_law 795 = .ok (.iload 4, 2) := dk_at k_dL_law_772 (i := 16) rfl
theorem dL_law_797 : decode cL_law 797 = .ok (.iconst 1, 1) := dk_at k_dL_law_772 (i := 17) rfl
theorem dL_law_798 : decode cL_law 798 = .ok (.iadd, 1) := dk_at k_dL_law_772 (i := 18) rfl
theorem dL_law_799 : decode cL_law 799 = .ok (.iaload, 1) := dk_at k_dL_law_772 (i := 19) rfl
theorem dL_law_800 : decode cL_law 800 = .ok (.aload_n 0, 1) := dk_at k_dL_law_772 (i := 20) rfl
theorem dL_law_801 : decode cL_law 801 = .ok (.iload 4, 2) := dk_at k_dL_law_772 (i := 21) rfl
theorem dL_law_803 : decode cL_law 803 = .ok (.iconst 2, 1) := dk_at k_dL_law_772 (i := 22) rfl
theorem dL_law_804 : decode cL_law 804 = .ok (.iadd, 1) := dk_at k_dL_law_772 (i := 23) rfl
theorem dL_law_805 : decode cL_law 805 = .ok (.iaload, 1) := dk_at k_dL_law_772 (i := 24) rfl
theorem dL_law_806 : decode cL_law 806 = .ok (.aload_n 3, 1) := dk_at k_dL_law_772 (i := 25) rfl
theorem dL_law_807 : decode cL_law 807 = .ok (.invokestatic 159, 3) := dk_at k_dL_law_772 (i := 26) rfl
theorem dL_law_810 : decode cL_law 810 = .ok (.istore 5, 2) := dk_at k_dL_law_772 (i := 27) rfl
theorem dL_law_812 : decode cL_law 812 = .ok (.aload_n 2, 1) := dk_at k_dL_law_772 (i := 28) rfl
theorem dL_law_813 : decode cL_law 813 = .ok (.aload_n 0, 1) := dk_at k_dL_law_772 (i := 29) rfl
theorem dL_law_814 : decode cL_law 814 = .ok (.iload 4, 2) := dk_at k_dL_law_772 (i := 30) rfl
theorem dL_law_816 : decode cL_law 816 = .ok (.iconst 1, 1) := dk_at k_dL_law_772 (i := 31) rfl
theorem k_dL_law_817 : dk cL_law [(817, .iadd, 1), (818, .iaload, 1), (819, .aload_n 0, 1), (820, .iload 4, 2), (822, .iconst 2, 1), (823, .iadd, 1), (824, .iaload, 1), (825, .invokevirtual 161, 3), (828, .istore 6, 2), (830, .goto 446, 3), (833, .aload_n 1, 1), (834, .invokevirtual 162, 3), (837, .pop, 1), (838, .aload_n 2, 1), (839, .invokevirtual 165, 3), (842, .pop, 1), (843, .goto 433, 3), (846, .aload_n 1, 1), (847, .aload_n 0, 1), (848, .iload 4, 2), (850, .iconst 1, 1), (851, .iadd, 1), (852, .iaload, 1), (853, .aload_n 0, 1), (854, .iload 4, 2), (856, .iconst 2, 1), (857, .iadd, 1), (858, .iaload, 1), (859, .aload_n 3, 1), (860, .invokestatic 166, 3), (863, .istore 5, 2), (865, .aload_n 2, 1)] = true := by decide +kernel
theorem dL_law_817 : decode cL_law 817 = .ok (.iadd, 1) := dk_at k_dL_law_817 (i := 0) rfl
theorem dL_law_818 : decode cL_law 818 = .ok (.iaload, 1) := dk_at k_dL_law_817 (i := 1) rfl
theorem dL_law_819 : decode cL_law 819 = .ok (.aload_n 0, 1) := dk_at k_dL_law_817 (i := 2) rfl
theorem dL_law_820 : decode cL_law 820 = .ok (.iload 4, 2) := dk_at k_dL_law_817 (i := 3) rfl
theorem dL_law_822 : decode cL_law 822 = .ok (.iconst 2, 1) := dk_at k_dL_law_817 (i := 4) rfl
theorem dL_law_823 : decode cL_law 823 = .ok (.iadd, 1) := dk_at k_dL_law_817 (i := 5) rfl
theorem dL_law_824 : decode cL_law 824 = .ok (.iaload, 1) := dk_at k_dL_law_817 (i := 6) rfl
theorem dL_law_825 : decode cL_law 825 = .ok (.invokevirtual 161, 3) := dk_at k_dL_law_817 (i := 7) rfl
theorem dL_law_828 : decode cL_law 828 = .ok (.istore 6, 2) := dk_at k_dL_law_817 (i := 8) rfl
theorem dL_law_830 : decode cL_law 830 = .ok (.goto 446, 3) := dk_at k_dL_law_817 (i := 9) rfl
theorem dL_law_833 : decode cL_law 833 = .ok (.aload_n 1, 1) := dk_at k_dL_law_817 (i := 10) rfl
theorem dL_law_834 : decode cL_law 834 = .ok (.invokevirtual 162, 3) := dk_at k_dL_law_817 (i := 11) rfl
theorem dL_law_837 : decode cL_law 837 = .ok (.pop, 1) := dk_at k_dL_law_817 (i := 12) rfl
theorem dL_law_838 : decode cL_law 838 = .ok (.aload_n 2, 1) := dk_at k_dL_law_817 (i := 13) rfl
theorem dL_law_839 : decode cL_law 839 = .ok (.invokevirtual 165, 3) := dk_at k_dL_law_817 (i := 14) rfl
theorem dL_law_842 : decode cL_law 842 = .ok (.pop, 1) := dk_at k_dL_law_817 (i := 15) rfl
theorem dL_law_843 : decode cL_law 843 = .ok (.goto 433, 3) := dk_at k_dL_law_817 (i := 16) rfl
theorem dL_law_846 : decode cL_law 846 = .ok (.aload_n 1, 1) := dk_at k_dL_law_817 (i := 17) rfl
theorem dL_law_847 : decode cL_law 847 = .ok (.aload_n 0, 1) := dk_at k_dL_law_817 (i := 18) rfl
theorem dL_law_848 : decode cL_law 848 = .ok (.iload 4, 2) := dk_at k_dL_law_817 (i := 19) rfl
theorem dL_law_850 : decode cL_law 850 = .ok (.iconst 1, 1) := dk_at k_dL_law_817 (i := 20) rfl
theorem dL_law_851 : decode cL_law 851 = .ok (.iadd, 1) := dk_at k_dL_law_817 (i := 21) rfl
theorem dL_law_852 : decode cL_law 852 = .ok (.iaload, 1) := dk_at k_dL_law_817 (i := 22) rfl
theorem dL_law_853 : decode cL_law 853 = .ok (.aload_n 0, 1) := dk_at k_dL_law_817 (i := 23) rfl
theorem dL_law_854 : decode cL_law 854 = .ok (.iload 4, 2) := dk_at k_dL_law_817 (i := 24) rfl
theorem dL_law_856 : decode cL_law 856 = .ok (.iconst 2, 1) := dk_at k_dL_law_817 (i := 25) rfl
theorem dL_law_857 : decode cL_law 857 = .ok (.iadd, 1) := dk_at k_dL_law_817 (i := 26) rfl
theorem dL_law_858 : decode cL_law 858 = .ok (.iaload, 1) := dk_at k_dL_law_817 (i := 27) rfl
theorem dL_law_859 : decode cL_law 859 = .ok (.aload_n 3, 1) := dk_at k_dL_law_817 (i := 28) rfl
theorem dL_law_860 : decode cL_law 860 = .ok (.invokestatic 166, 3) := dk_at k_dL_law_817 (i := 29) rfl
theorem dL_law_863 : decode cL_law 863 = .ok (.istore 5, 2) := dk_at k_dL_law_817 (i := 30) rfl
theorem dL_law_865 : decode cL_law 865 = .ok (.aload_n 2, 1) := dk_at k_dL_law_817 (i := 31) rfl
theorem k_dL_law_866 : dk cL_law [(866, .aload_n 0, 1), (867, .iload 4, 2), (869, .iconst 1, 1), (870, .iadd, 1), (871, .iaload, 1), (872, .aload_n 0, 1), (873, .iload 4, 2), (875, .iconst 2, 1), (876, .iadd, 1), (877, .iaload, 1), (878, .invokevirtual 168, 3), (881, .istore 6, 2), (883, .goto 393, 3), (886, .aload_n 1, 1), (887, .aload_n 0, 1), (888, .iload 4, 2), (890, .iconst 1, 1), (891, .iadd, 1), (892, .iaload, 1), (893, .aload_n 0, 1), (894, .iload 4, 2), (896, .iconst 2, 1), (897, .iadd, 1), (898, .iaload, 1), (899, .aload_n 3, 1), (900, .invokestatic 169, 3), (903, .istore 5, 2), (905, .aload_n 2, 1), (906, .aload_n 0, 1), (907, .iload 4, 2), (909, .iconst 1, 1), (910, .iadd, 1)] = true := by decide +kernel
theorem dL_law_866 : decode cL_law 866 = .ok (.aload_n 0, 1) := dk_at k_dL_law_866 (i := 0) rfl
theorem dL_law_867 : decode cL_law 867 = .ok (.iload 4, 2) := dk_at k_dL_law_866 (i := 1) rfl
theorem dL_law_869 : decode cL_law 869 = .ok (.iconst 1, 1) := dk_at k_dL_law_866 (i := 2) rfl
theorem dL_law_870 : decode cL_law 870 = .ok (.iadd, 1) := dk_at k_dL_law_866 (i := 3) rfl
theorem dL_law_871 : decode cL_law 871 = .ok (.iaload, 1) := dk_at k_dL_law_866 (i := 4) rfl
theorem dL_law_872 : decode cL_law 872 = .ok (.aload_n 0, 1) := dk_at k_dL_law_866 (i := 5) rfl
theorem dL_law_873 : decode cL_law 873 = .ok (.iload 4, 2) := dk_at k_dL_law_866 (i := 6) rfl
theorem dL_law_875 : decode cL_law 875 = .ok (.iconst 2, 1) := dk_at k_dL_law_866 (i := 7) rfl
theorem dL_law_876 : decode cL_law 876 = .ok (.iadd, 1) := dk_at k_dL_law_866 (i := 8) rfl
theorem dL_law_877 : decode cL_law 877 = .ok (.iaload, 1) := dk_at k_dL_law_866 (i := 9) rfl
theorem dL_law_878 : decode cL_law 878 = .ok (.invokevirtual 168, 3) := dk_at k_dL_law_866 (i := 10) rfl
theorem dL_law_881 : decode cL_law 881 = .ok (.istore 6, 2) := dk_at k_dL_law_866 (i := 11) rfl
theorem dL_law_883 : decode cL_law 883 = .ok (.goto 393, 3) := dk_at k_dL_law_866 (i := 12) rfl
theorem dL_law_886 : decode cL_law 886 = .ok (.aload_n 1, 1) := dk_at k_dL_law_866 (i := 13) rfl
theorem dL_law_887 : decode cL_law 887 = .ok (.aload_n 0, 1) := dk_at k_dL_law_866 (i := 14) rfl
theorem dL_law_888 : decode cL_law 888 = .ok (.iload 4, 2) := dk_at k_dL_law_866 (i := 15) rfl
theorem dL_law_890 : decode cL_law 890 = .ok (.iconst 1, 1) := dk_at k_dL_law_866 (i := 16) rfl
theorem dL_law_891 : decode cL_law 891 = .ok (.iadd, 1) := dk_at k_dL_law_866 (i := 17) rfl
theorem dL_law_892 : decode cL_law 892 = .ok (.iaload, 1) := dk_at k_dL_law_866 (i := 18) rfl
theorem dL_law_893 : decode cL_law 893 = .ok (.aload_n 0, 1) := dk_at k_dL_law_866 (i := 19) rfl
theorem dL_law_894 : decode cL_law 894 = .ok (.iload 4, 2) := dk_at k_dL_law_866 (i := 20) rfl
theorem dL_law_896 : decode cL_law 896 = .ok (.iconst 2, 1) := dk_at k_dL_law_866 (i := 21) rfl
theorem dL_law_897 : decode cL_law 897 = .ok (.iadd, 1) := dk_at k_dL_law_866 (i := 22) rfl
theorem dL_law_898 : decode cL_law 898 = .ok (.iaload, 1) := dk_at k_dL_law_866 (i := 23) rfl
theorem dL_law_899 : decode cL_law 899 = .ok (.aload_n 3, 1) := dk_at k_dL_law_866 (i := 24) rfl
theorem dL_law_900 : decode cL_law 900 = .ok (.invokestatic 169, 3) := dk_at k_dL_law_866 (i := 25) rfl
theorem dL_law_903 : decode cL_law 903 = .ok (.istore 5, 2) := dk_at k_dL_law_866 (i := 26) rfl
theorem dL_law_905 : decode cL_law 905 = .ok (.aload_n 2, 1) := dk_at k_dL_law_866 (i := 27) rfl
theorem dL_law_906 : decode cL_law 906 = .ok (.aload_n 0, 1) := dk_at k_dL_law_866 (i := 28) rfl
theorem dL_law_907 : decode cL_law 907 = .ok (.iload 4, 2) := dk_at k_dL_law_866 (i := 29) rfl
theorem dL_law_909 : decode cL_law 909 = .ok (.iconst 1, 1) := dk_at k_dL_law_866 (i := 30) rfl
theorem dL_law_910 : decode cL_law 910 = .ok (.iadd, 1) := dk_at k_dL_law_866 (i := 31) rfl
theorem k_dL_law_911 : dk cL_law [(911, .iaload, 1), (912, .aload_n 0, 1), (913, .iload 4, 2), (915, .iconst 2, 1), (916, .iadd, 1), (917, .iaload, 1), (918, .invokevirtual 171, 3), (921, .istore 6, 2), (923, .goto 353, 3), (926, .aload_n 1, 1), (927, .aload_n 0, 1), (928, .iload 4, 2), (930, .iconst 1, 1), (931, .iadd, 1), (932, .iaload, 1), (933, .aload_n 0, 1), (934, .iload 4, 2), (936, .iconst 2, 1), (937, .iadd, 1), (938, .iaload, 1), (939, .aload_n 3, 1), (940, .invokestatic 172, 3), (943, .istore 5, 2), (945, .aload_n 2, 1), (946, .aload_n 0, 1), (947, .iload 4, 2), (949, .iconst 1, 1), (950, .iadd, 1), (951, .iaload, 1), (952, .aload_n 0, 1), (953, .iload 4, 2), (955, .iconst 2, 1)] = true := by decide +kernel
theorem dL_law_911 : decode cL_law 911 = .ok (.iaload, 1) := dk_at k_dL_law_911 (i := 0) rfl
theorem dL_law_912 : decode cL_law 912 = .ok (.aload_n 0, 1) := dk_at k_dL_law_911 (i := 1) rfl
theorem dL_law_913 : decode cL_law 913 = .ok (.iload 4, 2) := dk_at k_dL_law_911 (i := 2) rfl
theorem dL_law_915 : decode cL_law 915 = .ok (.iconst 2, 1) := dk_at k_dL_law_911 (i := 3) rfl
theorem dL_law_916 : decode cL_law 916 = .ok (.iadd, 1) := dk_at k_dL_law_911 (i := 4) rfl
theorem dL_law_917 : decode cL_law 917 = .ok (.iaload, 1) := dk_at k_dL_law_911 (i := 5) rfl
theorem dL_law_918 : decode cL_law 918 = .ok (.invokevirtual 171, 3) := dk_at k_dL_law_911 (i := 6) rfl
theorem dL_law_921 : decode cL_law 921 = .ok (.istore 6, 2) := dk_at k_dL_law_911 (i := 7) rfl
theorem dL_law_923 : decode cL_law 923 = .ok (.goto 353, 3) := dk_at k_dL_law_911 (i := 8) rfl
theorem dL_law_926 : decode cL_law 926 = .ok (.aload_n 1, 1) := dk_at k_dL_law_911 (i := 9) rfl
theorem dL_law_927 : decode cL_law 927 = .ok (.aload_n 0, 1) := dk_at k_dL_law_911 (i := 10) rfl
theorem dL_law_928 : decode cL_law 928 = .ok (.iload 4, 2) := dk_at k_dL_law_911 (i := 11) rfl
theorem dL_law_930 : decode cL_law 930 = .ok (.iconst 1, 1) := dk_at k_dL_law_911 (i := 12) rfl
theorem dL_law_931 : decode cL_law 931 = .ok (.iadd, 1) := dk_at k_dL_law_911 (i := 13) rfl
theorem dL_law_932 : decode cL_law 932 = .ok (.iaload, 1) := dk_at k_dL_law_911 (i := 14) rfl
theorem dL_law_933 : decode cL_law 933 = .ok (.aload_n 0, 1) := dk_at k_dL_law_911 (i := 15) rfl
theorem dL_law_934 : decode cL_law 934 = .ok (.iload 4, 2) := dk_at k_dL_law_911 (i := 16) rfl
theorem dL_law_936 : decode cL_law 936 = .ok (.iconst 2, 1) := dk_at k_dL_law_911 (i := 17) rfl
theorem dL_law_937 : decode cL_law 937 = .ok (.iadd, 1) := dk_at k_dL_law_911 (i := 18) rfl
theorem dL_law_938 : decode cL_law 938 = .ok (.iaload, 1) := dk_at k_dL_law_911 (i := 19) rfl
theorem dL_law_939 : decode cL_law 939 = .ok (.aload_n 3, 1) := dk_at k_dL_law_911 (i := 20) rfl
theorem dL_law_940 : decode cL_law 940 = .ok (.invokestatic 172, 3) := dk_at k_dL_law_911 (i := 21) rfl
theorem dL_law_943 : decode cL_law 943 = .ok (.istore 5, 2) := dk_at k_dL_law_911 (i := 22) rfl
theorem dL_law_945 : decode cL_law 945 = .ok (.aload_n 2, 1) := dk_at k_dL_law_911 (i := 23) rfl
theorem dL_law_946 : decode cL_law 946 = .ok (.aload_n 0, 1) := dk_at k_dL_law_911 (i := 24) rfl
theorem dL_law_947 : decode cL_law 947 = .ok (.iload 4, 2) := dk_at k_dL_law_911 (i := 25) rfl
theorem dL_law_949 : decode cL_law 949 = .ok (.iconst 1, 1) := dk_at k_dL_law_911 (i := 26) rfl
theorem dL_law_950 : decode cL_law 950 = .ok (.iadd, 1) := dk_at k_dL_law_911 (i := 27) rfl
theorem dL_law_951 : decode cL_law 951 = .ok (.iaload, 1) := dk_at k_dL_law_911 (i := 28) rfl
theorem dL_law_952 : decode cL_law 952 = .ok (.aload_n 0, 1) := dk_at k_dL_law_911 (i := 29) rfl
theorem dL_law_953 : decode cL_law 953 = .ok (.iload 4, 2) := dk_at k_dL_law_911 (i := 30) rfl
theorem dL_law_955 : decode cL_law 955 = .ok (.iconst 2, 1) := dk_at k_dL_law_911 (i := 31) rfl
theorem k_dL_law_956 : dk cL_law [(956, .iadd, 1), (957, .iaload, 1), (958, .invokevirtual 174, 3), (961, .istore 6, 2), (963, .goto 313, 3), (966, .aload_n 1, 1), (967, .aload_n 0, 1), (968, .iload 4, 2), (970, .iconst 1, 1), (971, .iadd, 1), (972, .iaload, 1), (973, .aload_n 0, 1), (974, .iload 4, 2), (976, .iconst 2, 1), (977, .iadd, 1), (978, .iaload, 1), (979, .aload_n 3, 1), (980, .invokestatic 175, 3), (983, .istore 5, 2), (985, .aload_n 2, 1), (986, .aload_n 0, 1), (987, .iload 4, 2), (989, .iconst 1, 1), (990, .iadd, 1), (991, .iaload, 1), (992, .aload_n 0, 1), (993, .iload 4, 2), (995, .iconst 2, 1), (996, .iadd, 1), (997, .iaload, 1), (998, .invokevirtual 177, 3), (1001, .istore 6, 2)] = true := by decide +kernel
theorem dL_law_956 : decode cL_law 956 = .ok (.iadd, 1) := dk_at k_dL_law_956 (i := 0) rfl
theorem dL_law_957 : decode cL_law 957 = .ok (.iaload, 1) := dk_at k_dL_law_956 (i := 1) rfl
theorem dL_law_958 : decode cL_law 958 = .ok (.invokevirtual 174, 3) := dk_at k_dL_law_956 (i := 2) rfl
theorem dL_law_961 : decode cL_law 961 = .ok (.istore 6, 2) := dk_at k_dL_law_956 (i := 3) rfl
theorem dL_law_963 : decode cL_law 963 = .ok (.goto 313, 3) := dk_at k_dL_law_956 (i := 4) rfl
theorem dL_law_966 : decode cL_law 966 = .ok (.aload_n 1, 1) := dk_at k_dL_law_956 (i := 5) rfl
theorem dL_law_967 : decode cL_law 967 = .ok (.aload_n 0, 1) := dk_at k_dL_law_956 (i := 6) rfl
theorem dL_law_968 : decode cL_law 968 = .ok (.iload 4, 2) := dk_at k_dL_law_956 (i := 7) rfl
theorem dL_law_970 : decode cL_law 970 = .ok (.iconst 1, 1) := dk_at k_dL_law_956 (i := 8) rfl
theorem dL_law_971 : decode cL_law 971 = .ok (.iadd, 1) := dk_at k_dL_law_956 (i := 9) rfl
theorem dL_law_972 : decode cL_law 972 = .ok (.iaload, 1) := dk_at k_dL_law_956 (i := 10) rfl
theorem dL_law_973 : decode cL_law 973 = .ok (.aload_n 0, 1) := dk_at k_dL_law_956 (i := 11) rfl
theorem dL_law_974 : decode cL_law 974 = .ok (.iload 4, 2) := dk_at k_dL_law_956 (i := 12) rfl
theorem dL_law_976 : decode cL_law 976 = .ok (.iconst 2, 1) := dk_at k_dL_law_956 (i := 13) rfl
theorem dL_law_977 : decode cL_law 977 = .ok (.iadd, 1) := dk_at k_dL_law_956 (i := 14) rfl
theorem dL_law_978 : decode cL_law 978 = .ok (.iaload, 1) := dk_at k_dL_law_956 (i := 15) rfl
theorem dL_law_979 : decode cL_law 979 = .ok (.aload_n 3, 1) := dk_at k_dL_law_956 (i := 16) rfl
theorem dL_law_980 : decode cL_law 980 = .ok (.invokestatic 175, 3) := dk_at k_dL_law_956 (i := 17) rfl
theorem dL_law_983 : decode cL_law 983 = .ok (.istore 5, 2) := dk_at k_dL_law_956 (i := 18) rfl
theorem dL_law_985 : decode cL_law 985 = .ok (.aload_n 2, 1) := dk_at k_dL_law_956 (i := 19) rfl
theorem dL_law_986 : decode cL_law 986 = .ok (.aload_n 0, 1) := dk_at k_dL_law_956 (i := 20) rfl
theorem dL_law_987 : decode cL_law 987 = .ok (.iload 4, 2) := dk_at k_dL_law_956 (i := 21) rfl
theorem dL_law_989 : decode cL_law 989 = .ok (.iconst 1, 1) := dk_at k_dL_law_956 (i := 22) rfl
theorem dL_law_990 : decode cL_law 990 = .ok (.iadd, 1) := dk_at k_dL_law_956 (i := 23) rfl
theorem dL_law_991 : decode cL_law 991 = .ok (.iaload, 1) := dk_at k_dL_law_956 (i := 24) rfl
theorem dL_law_992 : decode cL_law 992 = .ok (.aload_n 0, 1) := dk_at k_dL_law_956 (i := 25) rfl
theorem dL_law_993 : decode cL_law 993 = .ok (.iload 4, 2) := dk_at k_dL_law_956 (i := 26) rfl
theorem dL_law_995 : decode cL_law 995 = .ok (.iconst 2, 1) := dk_at k_dL_law_956 (i := 27) rfl
theorem dL_law_996 : decode cL_law 996 = .ok (.iadd, 1) := dk_at k_dL_law_956 (i := 28) rfl
theorem dL_law_997 : decode cL_law 997 = .ok (.iaload, 1) := dk_at k_dL_law_956 (i := 29) rfl
theorem dL_law_998 : decode cL_law 998 = .ok (.invokevirtual 177, 3) := dk_at k_dL_law_956 (i := 30) rfl
theorem dL_law_1001 : decode cL_law 1001 = .ok (.istore 6, 2) := dk_at k_dL_law_956 (i := 31) rfl
theorem k_dL_law_1003 : dk cL_law [(1003, .goto 273, 3), (1006, .aload_n 1, 1), (1007, .aload_n 0, 1), (1008, .iload 4, 2), (1010, .iconst 1, 1), (1011, .iadd, 1), (1012, .iaload, 1), (1013, .aload_n 0, 1), (1014, .iload 4, 2), (1016, .iconst 2, 1), (1017, .iadd, 1), (1018, .iaload, 1), (1019, .aload_n 3, 1), (1020, .invokestatic 178, 3), (1023, .istore 5, 2), (1025, .aload_n 2, 1), (1026, .aload_n 0, 1), (1027, .iload 4, 2), (1029, .iconst 1, 1), (1030, .iadd, 1), (1031, .iaload, 1), (1032, .aload_n 0, 1), (1033, .iload 4, 2), (1035, .iconst 2, 1), (1036, .iadd, 1), (1037, .iaload, 1), (1038, .invokevirtual 180, 3), (1041, .istore 6, 2), (1043, .goto 233, 3), (1046, .aload_n 1, 1), (1047, .aload_n 0, 1), (1048, .iload 4, 2)] = true := by decide +kernel
theorem dL_law_1003 : decode cL_law 1003 = .ok (.goto 273, 3) := dk_at k_dL_law_1003 (i := 0) rfl
theorem dL_law_1006 : decode cL_law 1006 = .ok (.aload_n 1, 1) := dk_at k_dL_law_1003 (i := 1) rfl
theorem dL_law_1007 : decode cL_law 1007 = .ok (.aload_n 0, 1) := dk_at k_dL_law_1003 (i := 2) rfl
theorem dL_law_1008 : decode cL_law 1008 = .ok (.iload 4, 2) := dk_at k_dL_law_1003 (i := 3) rfl
theorem dL_law_1010 : decode cL_law 1010 = .ok (.iconst 1, 1) := dk_at k_dL_law_1003 (i := 4) rfl
theorem dL_law_1011 : decode cL_law 1011 = .ok (.iadd, 1) := dk_at k_dL_law_1003 (i := 5) rfl
theorem dL_law_1012 : decode cL_law 1012 = .ok (.iaload, 1) := dk_at k_dL_law_1003 (i := 6) rfl
theorem dL_law_1013 : decode cL_law 1013 = .ok (.aload_n 0, 1) := dk_at k_dL_law_1003 (i := 7) rfl
theorem dL_law_1014 : decode cL_law 1014 = .ok (.iload 4, 2) := dk_at k_dL_law_1003 (i := 8) rfl
theorem dL_law_1016 : decode cL_law 1016 = .ok (.iconst 2, 1) := dk_at k_dL_law_1003 (i := 9) rfl
theorem dL_law_1017 : decode cL_law 1017 = .ok (.iadd, 1) := dk_at k_dL_law_1003 (i := 10) rfl
theorem dL_law_1018 : decode cL_law 1018 = .ok (.iaload, 1) := dk_at k_dL_law_1003 (i := 11) rfl
theorem dL_law_1019 : decode cL_law 1019 = .ok (.aload_n 3, 1) := dk_at k_dL_law_1003 (i := 12) rfl
theorem dL_law_1020 : decode cL_law 1020 = .ok (.invokestatic 178, 3) := dk_at k_dL_law_1003 (i := 13) rfl
theorem dL_law_1023 : decode cL_law 1023 = .ok (.istore 5, 2) := dk_at k_dL_law_1003 (i := 14) rfl
theorem dL_law_1025 : decode cL_law 1025 = .ok (.aload_n 2, 1) := dk_at k_dL_law_1003 (i := 15) rfl
theorem dL_law_1026 : decode cL_law 1026 = .ok (.aload_n 0, 1) := dk_at k_dL_law_1003 (i := 16) rfl
theorem dL_law_1027 : decode cL_law 1027 = .ok (.iload 4, 2) := dk_at k_dL_law_1003 (i := 17) rfl
theorem dL_law_1029 : decode cL_law 1029 = .ok (.iconst 1, 1) := dk_at k_dL_law_1003 (i := 18) rfl
theorem dL_law_1030 : decode cL_law 1030 = .ok (.iadd, 1) := dk_at k_dL_law_1003 (i := 19) rfl
theorem dL_law_1031 : decode cL_law 1031 = .ok (.iaload, 1) := dk_at k_dL_law_1003 (i := 20) rfl
theorem dL_law_1032 : decode cL_law 1032 = .ok (.aload_n 0, 1) := dk_at k_dL_law_1003 (i := 21) rfl
theorem dL_law_1033 : decode cL_law 1033 = .ok (.iload 4, 2) := dk_at k_dL_law_1003 (i := 22) rfl
theorem dL_law_1035 : decode cL_law 1035 = .ok (.iconst 2, 1) := dk_at k_dL_law_1003 (i := 23) rfl
theorem dL_law_1036 : decode cL_law 1036 = .ok (.iadd, 1) := dk_at k_dL_law_1003 (i := 24) rfl
theorem dL_law_1037 : decode cL_law 1037 = .ok (.iaload, 1) := dk_at k_dL_law_1003 (i := 25) rfl
theorem dL_law_1038 : decode cL_law 1038 = .ok (.invokevirtual 180, 3) := dk_at k_dL_law_1003 (i := 26) rfl
theorem dL_law_1041 : decode cL_law 1041 = .ok (.istore 6, 2) := dk_at k_dL_law_1003 (i := 27) rfl
theorem dL_law_1043 : decode cL_law 1043 = .ok (.goto 233, 3) := dk_at k_dL_law_1003 (i := 28) rfl
theorem dL_law_1046 : decode cL_law 1046 = .ok (.aload_n 1, 1) := dk_at k_dL_law_1003 (i := 29) rfl
theorem dL_law_1047 : decode cL_law 1047 = .ok (.aload_n 0, 1) := dk_at k_dL_law_1003 (i := 30) rfl
theorem dL_law_1048 : decode cL_law 1048 = .ok (.iload 4, 2) := dk_at k_dL_law_1003 (i := 31) rfl
theorem k_dL_law_1050 : dk cL_law [(1050, .iconst 1, 1), (1051, .iadd, 1), (1052, .iaload, 1), (1053, .aload_n 3, 1), (1054, .invokestatic 181, 3), (1057, .istore 5, 2), (1059, .aload_n 2, 1), (1060, .aload_n 0, 1), (1061, .iload 4, 2), (1063, .iconst 1, 1), (1064, .iadd, 1), (1065, .iaload, 1), (1066, .invokevirtual 183, 3), (1069, .istore 6, 2), (1071, .goto 205, 3), (1074, .aload_n 1, 1), (1075, .aload_n 0, 1), (1076, .iload 4, 2), (1078, .iconst 1, 1), (1079, .iadd, 1), (1080, .iaload, 1), (1081, .aload_n 3, 1), (1082, .invokestatic 184, 3), (1085, .istore 5, 2), (1087, .aload_n 2, 1), (1088, .aload_n 0, 1), (1089, .iload 4, 2), (1091, .iconst 1, 1), (1092, .iadd, 1), (1093, .iaload, 1), (1094, .invokevirtual 186, 3), (1097, .astore 6, 2)] = true := by decide +kernel
theorem dL_law_1050 : decode cL_law 1050 = .ok (.iconst 1, 1) := dk_at k_dL_law_1050 (i := 0) rfl
theorem dL_law_1051 : decode cL_law 1051 = .ok (.iadd, 1) := dk_at k_dL_law_1050 (i := 1) rfl
theorem dL_law_1052 : decode cL_law 1052 = .ok (.iaload, 1) := dk_at k_dL_law_1050 (i := 2) rfl
theorem dL_law_1053 : decode cL_law 1053 = .ok (.aload_n 3, 1) := dk_at k_dL_law_1050 (i := 3) rfl
theorem dL_law_1054 : decode cL_law 1054 = .ok (.invokestatic 181, 3) := dk_at k_dL_law_1050 (i := 4) rfl
theorem dL_law_1057 : decode cL_law 1057 = .ok (.istore 5, 2) := dk_at k_dL_law_1050 (i := 5) rfl
theorem dL_law_1059 : decode cL_law 1059 = .ok (.aload_n 2, 1) := dk_at k_dL_law_1050 (i := 6) rfl
theorem dL_law_1060 : decode cL_law 1060 = .ok (.aload_n 0, 1) := dk_at k_dL_law_1050 (i := 7) rfl
theorem dL_law_1061 : decode cL_law 1061 = .ok (.iload 4, 2) := dk_at k_dL_law_1050 (i := 8) rfl
theorem dL_law_1063 : decode cL_law 1063 = .ok (.iconst 1, 1) := dk_at k_dL_law_1050 (i := 9) rfl
theorem dL_law_1064 : decode cL_law 1064 = .ok (.iadd, 1) := dk_at k_dL_law_1050 (i := 10) rfl
theorem dL_law_1065 : decode cL_law 1065 = .ok (.iaload, 1) := dk_at k_dL_law_1050 (i := 11) rfl
theorem dL_law_1066 : decode cL_law 1066 = .ok (.invokevirtual 183, 3) := dk_at k_dL_law_1050 (i := 12) rfl
theorem dL_law_1069 : decode cL_law 1069 = .ok (.istore 6, 2) := dk_at k_dL_law_1050 (i := 13) rfl
theorem dL_law_1071 : decode cL_law 1071 = .ok (.goto 205, 3) := dk_at k_dL_law_1050 (i := 14) rfl
theorem dL_law_1074 : decode cL_law 1074 = .ok (.aload_n 1, 1) := dk_at k_dL_law_1050 (i := 15) rfl
theorem dL_law_1075 : decode cL_law 1075 = .ok (.aload_n 0, 1) := dk_at k_dL_law_1050 (i := 16) rfl
theorem dL_law_1076 : decode cL_law 1076 = .ok (.iload 4, 2) := dk_at k_dL_law_1050 (i := 17) rfl
theorem dL_law_1078 : decode cL_law 1078 = .ok (.iconst 1, 1) := dk_at k_dL_law_1050 (i := 18) rfl
theorem dL_law_1079 : decode cL_law 1079 = .ok (.iadd, 1) := dk_at k_dL_law_1050 (i := 19) rfl
theorem dL_law_1080 : decode cL_law 1080 = .ok (.iaload, 1) := dk_at k_dL_law_1050 (i := 20) rfl
theorem dL_law_1081 : decode cL_law 1081 = .ok (.aload_n 3, 1) := dk_at k_dL_law_1050 (i := 21) rfl
theorem dL_law_1082 : decode cL_law 1082 = .ok (.invokestatic 184, 3) := dk_at k_dL_law_1050 (i := 22) rfl
theorem dL_law_1085 : decode cL_law 1085 = .ok (.istore 5, 2) := dk_at k_dL_law_1050 (i := 23) rfl
theorem dL_law_1087 : decode cL_law 1087 = .ok (.aload_n 2, 1) := dk_at k_dL_law_1050 (i := 24) rfl
theorem dL_law_1088 : decode cL_law 1088 = .ok (.aload_n 0, 1) := dk_at k_dL_law_1050 (i := 25) rfl
theorem dL_law_1089 : decode cL_law 1089 = .ok (.iload 4, 2) := dk_at k_dL_law_1050 (i := 26) rfl
theorem dL_law_1091 : decode cL_law 1091 = .ok (.iconst 1, 1) := dk_at k_dL_law_1050 (i := 27) rfl
theorem dL_law_1092 : decode cL_law 1092 = .ok (.iadd, 1) := dk_at k_dL_law_1050 (i := 28) rfl
theorem dL_law_1093 : decode cL_law 1093 = .ok (.iaload, 1) := dk_at k_dL_law_1050 (i := 29) rfl
theorem dL_law_1094 : decode cL_law 1094 = .ok (.invokevirtual 186, 3) := dk_at k_dL_law_1050 (i := 30) rfl
theorem dL_law_1097 : decode cL_law 1097 = .ok (.astore 6, 2) := dk_at k_dL_law_1050 (i := 31) rfl
theorem k_dL_law_1099 : dk cL_law [(1099, .goto 177, 3), (1102, .aload_n 1, 1), (1103, .aload_n 0, 1), (1104, .iload 4, 2), (1106, .iconst 1, 1), (1107, .iadd, 1), (1108, .iaload, 1), (1109, .aload_n 3, 1), (1110, .invokestatic 187, 3), (1113, .istore 5, 2), (1115, .aload_n 2, 1), (1116, .aload_n 0, 1), (1117, .iload 4, 2), (1119, .iconst 1, 1), (1120, .iadd, 1), (1121, .iaload, 1), (1122, .invokevirtual 189, 3), (1125, .istore 6, 2), (1127, .goto 149, 3), (1130, .aload_n 1, 1), (1131, .aload_n 0, 1), (1132, .iload 4, 2), (1134, .iconst 1, 1), (1135, .iadd, 1), (1136, .iaload, 1), (1137, .aload_n 0, 1), (1138, .iload 4, 2), (1140, .iconst 2, 1), (1141, .iadd, 1), (1142, .iaload, 1), (1143, .aload_n 3, 1), (1144, .invokestatic 190, 3)] = true := by decide +kernel
theorem dL_law_1099 : decode cL_law 1099 = .ok (.goto 177, 3) := dk_at k_dL_law_1099 (i := 0) rfl
theorem dL_law_1102 : decode cL_law 1102 = .ok (.aload_n 1, 1) := dk_at k_dL_law_1099 (i := 1) rfl
theorem dL_law_1103 : decode cL_law 1103 = .ok (.aload_n 0, 1) := dk_at k_dL_law_1099 (i := 2) rfl
theorem dL_law_1104 : decode cL_law 1104 = .ok (.iload 4, 2) := dk_at k_dL_law_1099 (i := 3) rfl
theorem dL_law_1106 : decode cL_law 1106 = .ok (.iconst 1, 1) := dk_at k_dL_law_1099 (i := 4) rfl
theorem dL_law_1107 : decode cL_law 1107 = .ok (.iadd, 1) := dk_at k_dL_law_1099 (i := 5) rfl
theorem dL_law_1108 : decode cL_law 1108 = .ok (.iaload, 1) := dk_at k_dL_law_1099 (i := 6) rfl
theorem dL_law_1109 : decode cL_law 1109 = .ok (.aload_n 3, 1) := dk_at k_dL_law_1099 (i := 7) rfl
theorem dL_law_1110 : decode cL_law 1110 = .ok (.invokestatic 187, 3) := dk_at k_dL_law_1099 (i := 8) rfl
theorem dL_law_1113 : decode cL_law 1113 = .ok (.istore 5, 2) := dk_at k_dL_law_1099 (i := 9) rfl
theorem dL_law_1115 : decode cL_law 1115 = .ok (.aload_n 2, 1) := dk_at k_dL_law_1099 (i := 10) rfl
theorem dL_law_1116 : decode cL_law 1116 = .ok (.aload_n 0, 1) := dk_at k_dL_law_1099 (i := 11) rfl
theorem dL_law_1117 : decode cL_law 1117 = .ok (.iload 4, 2) := dk_at k_dL_law_1099 (i := 12) rfl
theorem dL_law_1119 : decode cL_law 1119 = .ok (.iconst 1, 1) := dk_at k_dL_law_1099 (i := 13) rfl
theorem dL_law_1120 : decode cL_law 1120 = .ok (.iadd, 1) := dk_at k_dL_law_1099 (i := 14) rfl
theorem dL_law_1121 : decode cL_law 1121 = .ok (.iaload, 1) := dk_at k_dL_law_1099 (i := 15) rfl
theorem dL_law_1122 : decode cL_law 1122 = .ok (.invokevirtual 189, 3) := dk_at k_dL_law_1099 (i := 16) rfl
theorem dL_law_1125 : decode cL_law 1125 = .ok (.istore 6, 2) := dk_at k_dL_law_1099 (i := 17) rfl
theorem dL_law_1127 : decode cL_law 1127 = .ok (.goto 149, 3) := dk_at k_dL_law_1099 (i := 18) rfl
theorem dL_law_1130 : decode cL_law 1130 = .ok (.aload_n 1, 1) := dk_at k_dL_law_1099 (i := 19) rfl
theorem dL_law_1131 : decode cL_law 1131 = .ok (.aload_n 0, 1) := dk_at k_dL_law_1099 (i := 20) rfl
theorem dL_law_1132 : decode cL_law 1132 = .ok (.iload 4, 2) := dk_at k_dL_law_1099 (i := 21) rfl
theorem dL_law_1134 : decode cL_law 1134 = .ok (.iconst 1, 1) := dk_at k_dL_law_1099 (i := 22) rfl
theorem dL_law_1135 : decode cL_law 1135 = .ok (.iadd, 1) := dk_at k_dL_law_1099 (i := 23) rfl
theorem dL_law_1136 : decode cL_law 1136 = .ok (.iaload, 1) := dk_at k_dL_law_1099 (i := 24) rfl
theorem dL_law_1137 : decode cL_law 1137 = .ok (.aload_n 0, 1) := dk_at k_dL_law_1099 (i := 25) rfl
theorem dL_law_1138 : decode cL_law 1138 = .ok (.iload 4, 2) := dk_at k_dL_law_1099 (i := 26) rfl
theorem dL_law_1140 : decode cL_law 1140 = .ok (.iconst 2, 1) := dk_at k_dL_law_1099 (i := 27) rfl
theorem dL_law_1141 : decode cL_law 1141 = .ok (.iadd, 1) := dk_at k_dL_law_1099 (i := 28) rfl
theorem dL_law_1142 : decode cL_law 1142 = .ok (.iaload, 1) := dk_at k_dL_law_1099 (i := 29) rfl
theorem dL_law_1143 : decode cL_law 1143 = .ok (.aload_n 3, 1) := dk_at k_dL_law_1099 (i := 30) rfl
theorem dL_law_1144 : decode cL_law 1144 = .ok (.invokestatic 190, 3) := dk_at k_dL_law_1099 (i := 31) rfl
theorem k_dL_law_1147 : dk cL_law [(1147, .istore 5, 2), (1149, .aload_n 2, 1), (1150, .aload_n 0, 1), (1151, .iload 4, 2), (1153, .iconst 1, 1), (1154, .iadd, 1), (1155, .iaload, 1), (1156, .aload_n 0, 1), (1157, .iload 4, 2), (1159, .iconst 2, 1), (1160, .iadd, 1), (1161, .iaload, 1), (1162, .invokevirtual 192, 3), (1165, .istore 6, 2), (1167, .goto 109, 3), (1170, .aload_n 1, 1), (1171, .aload_n 0, 1), (1172, .iload 4, 2), (1174, .iconst 1, 1), (1175, .iadd, 1), (1176, .iaload, 1), (1177, .aload_n 0, 1), (1178, .iload 4, 2), (1180, .iconst 2, 1), (1181, .iadd, 1), (1182, .iaload, 1), (1183, .aload_n 3, 1), (1184, .invokestatic 193, 3), (1187, .istore 5, 2), (1189, .aload_n 2, 1), (1190, .aload_n 0, 1), (1191, .iload 4, 2)] = true := by decide +kernel
theorem dL_law_1147 : decode cL_law 1147 = .ok (.istore 5, 2) := dk_at k_dL_law_1147 (i := 0) rfl
theorem dL_law_1149 : decode cL_law 1149 = .ok (.aload_n 2, 1) := dk_at k_dL_law_1147 (i := 1) rfl
theorem dL_law_1150 : decode cL_law 1150 = .ok (.aload_n 0, 1) := dk_at k_dL_law_1147 (i := 2) rfl
theorem dL_law_1151 : decode cL_law 1151 = .ok (.iload 4, 2) := dk_at k_dL_law_1147 (i := 3) rfl
theorem dL_law_1153 : decode cL_law 1153 = .ok (.iconst 1, 1) := dk_at k_dL_law_1147 (i := 4) rfl
theorem dL_law_1154 : decode cL_law 1154 = .ok (.iadd, 1) := dk_at k_dL_law_1147 (i := 5) rfl
theorem dL_law_1155 : decode cL_law 1155 = .ok (.iaload, 1) := dk_at k_dL_law_1147 (i := 6) rfl
theorem dL_law_1156 : decode cL_law 1156 = .ok (.aload_n 0, 1) := dk_at k_dL_law_1147 (i := 7) rfl
theorem dL_law_1157 : decode cL_law 1157 = .ok (.iload 4, 2) := dk_at k_dL_law_1147 (i := 8) rfl
theorem dL_law_1159 : decode cL_law 1159 = .ok (.iconst 2, 1) := dk_at k_dL_law_1147 (i := 9) rfl
theorem dL_law_1160 : decode cL_law 1160 = .ok (.iadd, 1) := dk_at k_dL_law_1147 (i := 10) rfl
theorem dL_law_1161 : decode cL_law 1161 = .ok (.iaload, 1) := dk_at k_dL_law_1147 (i := 11) rfl
theorem dL_law_1162 : decode cL_law 1162 = .ok (.invokevirtual 192, 3) := dk_at k_dL_law_1147 (i := 12) rfl
theorem dL_law_1165 : decode cL_law 1165 = .ok (.istore 6, 2) := dk_at k_dL_law_1147 (i := 13) rfl
theorem dL_law_1167 : decode cL_law 1167 = .ok (.goto 109, 3) := dk_at k_dL_law_1147 (i := 14) rfl
theorem dL_law_1170 : decode cL_law 1170 = .ok (.aload_n 1, 1) := dk_at k_dL_law_1147 (i := 15) rfl
theorem dL_law_1171 : decode cL_law 1171 = .ok (.aload_n 0, 1) := dk_at k_dL_law_1147 (i := 16) rfl
theorem dL_law_1172 : decode cL_law 1172 = .ok (.iload 4, 2) := dk_at k_dL_law_1147 (i := 17) rfl
theorem dL_law_1174 : decode cL_law 1174 = .ok (.iconst 1, 1) := dk_at k_dL_law_1147 (i := 18) rfl
theorem dL_law_1175 : decode cL_law 1175 = .ok (.iadd, 1) := dk_at k_dL_law_1147 (i := 19) rfl
theorem dL_law_1176 : decode cL_law 1176 = .ok (.iaload, 1) := dk_at k_dL_law_1147 (i := 20) rfl
theorem dL_law_1177 : decode cL_law 1177 = .ok (.aload_n 0, 1) := dk_at k_dL_law_1147 (i := 21) rfl
theorem dL_law_1178 : decode cL_law 1178 = .ok (.iload 4, 2) := dk_at k_dL_law_1147 (i := 22) rfl
theorem dL_law_1180 : decode cL_law 1180 = .ok (.iconst 2, 1) := dk_at k_dL_law_1147 (i := 23) rfl
theorem dL_law_1181 : decode cL_law 1181 = .ok (.iadd, 1) := dk_at k_dL_law_1147 (i := 24) rfl
theorem dL_law_1182 : decode cL_law 1182 = .ok (.iaload, 1) := dk_at k_dL_law_1147 (i := 25) rfl
theorem dL_law_1183 : decode cL_law 1183 = .ok (.aload_n 3, 1) := dk_at k_dL_law_1147 (i := 26) rfl
theorem dL_law_1184 : decode cL_law 1184 = .ok (.invokestatic 193, 3) := dk_at k_dL_law_1147 (i := 27) rfl
theorem dL_law_1187 : decode cL_law 1187 = .ok (.istore 5, 2) := dk_at k_dL_law_1147 (i := 28) rfl
theorem dL_law_1189 : decode cL_law 1189 = .ok (.aload_n 2, 1) := dk_at k_dL_law_1147 (i := 29) rfl
theorem dL_law_1190 : decode cL_law 1190 = .ok (.aload_n 0, 1) := dk_at k_dL_law_1147 (i := 30) rfl
theorem dL_law_1191 : decode cL_law 1191 = .ok (.iload 4, 2) := dk_at k_dL_law_1147 (i := 31) rfl
theorem k_dL_law_1193 : dk cL_law [(1193, .iconst 1, 1), (1194, .iadd, 1), (1195, .iaload, 1), (1196, .aload_n 0, 1), (1197, .iload 4, 2), (1199, .iconst 2, 1), (1200, .iadd, 1), (1201, .iaload, 1), (1202, .invokevirtual 195, 3), (1205, .istore 6, 2), (1207, .goto 69, 3), (1210, .aload_n 1, 1), (1211, .aload_n 0, 1), (1212, .iload 4, 2), (1214, .iconst 1, 1), (1215, .iadd, 1), (1216, .iaload, 1), (1217, .aload_n 0, 1), (1218, .iload 4, 2), (1220, .iconst 2, 1), (1221, .iadd, 1), (1222, .iaload, 1), (1223, .aload_n 3, 1), (1224, .invokestatic 196, 3), (1227, .istore 5, 2), (1229, .aload_n 2, 1), (1230, .aload_n 0, 1), (1231, .iload 4, 2), (1233, .iconst 1, 1), (1234, .iadd, 1), (1235, .iaload, 1), (1236, .aload_n 0, 1)] = true := by decide +kernel
theorem dL_law_1193 : decode cL_law 1193 = .ok (.iconst 1, 1) := dk_at k_dL_law_1193 (i := 0) rfl
theorem dL_law_1194 : decode cL_law 1194 = .ok (.iadd, 1) := dk_at k_dL_law_1193 (i := 1) rfl
theorem dL_law_1195 : decode cL_law 1195 = .ok (.iaload, 1) := dk_at k_dL_law_1193 (i := 2) rfl
theorem dL_law_1196 : decode cL_law 1196 = .ok (.aload_n 0, 1) := dk_at k_dL_law_1193 (i := 3) rfl
theorem dL_law_1197 : decode cL_law 1197 = .ok (.iload 4, 2) := dk_at k_dL_law_1193 (i := 4) rfl
theorem dL_law_1199 : decode cL_law 1199 = .ok (.iconst 2, 1) := dk_at k_dL_law_1193 (i := 5) rfl
theorem dL_law_1200 : decode cL_law 1200 = .ok (.iadd, 1) := dk_at k_dL_law_1193 (i := 6) rfl
theorem dL_law_1201 : decode cL_law 1201 = .ok (.iaload, 1) := dk_at k_dL_law_1193 (i := 7) rfl
theorem dL_law_1202 : decode cL_law 1202 = .ok (.invokevirtual 195, 3) := dk_at k_dL_law_1193 (i := 8) rfl
theorem dL_law_1205 : decode cL_law 1205 = .ok (.istore 6, 2) := dk_at k_dL_law_1193 (i := 9) rfl
theorem dL_law_1207 : decode cL_law 1207 = .ok (.goto 69, 3) := dk_at k_dL_law_1193 (i := 10) rfl
theorem dL_law_1210 : decode cL_law 1210 = .ok (.aload_n 1, 1) := dk_at k_dL_law_1193 (i := 11) rfl
theorem dL_law_1211 : decode cL_law 1211 = .ok (.aload_n 0, 1) := dk_at k_dL_law_1193 (i := 12) rfl
theorem dL_law_1212 : decode cL_law 1212 = .ok (.iload 4, 2) := dk_at k_dL_law_1193 (i := 13) rfl
theorem dL_law_1214 : decode cL_law 1214 = .ok (.iconst 1, 1) := dk_at k_dL_law_1193 (i := 14) rfl
theorem dL_law_1215 : decode cL_law 1215 = .ok (.iadd, 1) := dk_at k_dL_law_1193 (i := 15) rfl
theorem dL_law_1216 : decode cL_law 1216 = .ok (.iaload, 1) := dk_at k_dL_law_1193 (i := 16) rfl
theorem dL_law_1217 : decode cL_law 1217 = .ok (.aload_n 0, 1) := dk_at k_dL_law_1193 (i := 17) rfl
theorem dL_law_1218 : decode cL_law 1218 = .ok (.iload 4, 2) := dk_at k_dL_law_1193 (i := 18) rfl
theorem dL_law_1220 : decode cL_law 1220 = .ok (.iconst 2, 1) := dk_at k_dL_law_1193 (i := 19) rfl
theorem dL_law_1221 : decode cL_law 1221 = .ok (.iadd, 1) := dk_at k_dL_law_1193 (i := 20) rfl
theorem dL_law_1222 : decode cL_law 1222 = .ok (.iaload, 1) := dk_at k_dL_law_1193 (i := 21) rfl
theorem dL_law_1223 : decode cL_law 1223 = .ok (.aload_n 3, 1) := dk_at k_dL_law_1193 (i := 22) rfl
theorem dL_law_1224 : decode cL_law 1224 = .ok (.invokestatic 196, 3) := dk_at k_dL_law_1193 (i := 23) rfl
theorem dL_law_1227 : decode cL_law 1227 = .ok (.istore 5, 2) := dk_at k_dL_law_1193 (i := 24) rfl
theorem dL_law_1229 : decode cL_law 1229 = .ok (.aload_n 2, 1) := dk_at k_dL_law_1193 (i := 25) rfl
theorem dL_law_1230 : decode cL_law 1230 = .ok (.aload_n 0, 1) := dk_at k_dL_law_1193 (i := 26) rfl
theorem dL_law_1231 : decode cL_law 1231 = .ok (.iload 4, 2) := dk_at k_dL_law_1193 (i := 27) rfl
theorem dL_law_1233 : decode cL_law 1233 = .ok (.iconst 1, 1) := dk_at k_dL_law_1193 (i := 28) rfl
theorem dL_law_1234 : decode cL_law 1234 = .ok (.iadd, 1) := dk_at k_dL_law_1193 (i := 29) rfl
theorem dL_law_1235 : decode cL_law 1235 = .ok (.iaload, 1) := dk_at k_dL_law_1193 (i := 30) rfl
theorem dL_law_1236 : decode cL_law 1236 = .ok (.aload_n 0, 1) := dk_at k_dL_law_1193 (i := 31) rfl
theorem k_dL_law_1237 : dk cL_law [(1237, .iload 4, 2), (1239, .iconst 2, 1), (1240, .iadd, 1), (1241, .iaload, 1), (1242, .invokevirtual 198, 3), (1245, .istore 6, 2), (1247, .goto 29, 3), (1250, .aload_n 1, 1), (1251, .invokevirtual 199, 3), (1254, .pop, 1), (1255, .aload_n 2, 1), (1256, .invokevirtual 203, 3), (1259, .pop, 1), (1260, .goto 16, 3), (1263, .aload_n 1, 1), (1264, .invokevirtual 204, 3), (1267, .pop2, 1), (1268, .aload_n 2, 1), (1269, .invokevirtual 208, 3), (1272, .pop2, 1), (1273, .goto 3, 3), (1276, .iinc 4 5, 3), (1279, .goto (-1252), 3), (1282, .iconst 1, 1), (1283, .ireturn, 1)] = true := by decide +kernel
theorem dL_law_1237 : decode cL_law 1237 = .ok (.iload 4, 2) := dk_at k_dL_law_1237 (i := 0) rfl
theorem dL_law_1239 : decode cL_law 1239 = .ok (.iconst 2, 1) := dk_at k_dL_law_1237 (i := 1) rfl
theorem dL_law_1240 : decode cL_law 1240 = .ok (.iadd, 1) := dk_at k_dL_law_1237 (i := 2) rfl
theorem dL_law_1241 : decode cL_law 1241 = .ok (.iaload, 1) := dk_at k_dL_law_1237 (i := 3) rfl
theorem dL_law_1242 : decode cL_law 1242 = .ok (.invokevirtual 198, 3) := dk_at k_dL_law_1237 (i := 4) rfl
theorem dL_law_1245 : decode cL_law 1245 = .ok (.istore 6, 2) := dk_at k_dL_law_1237 (i := 5) rfl
theorem dL_law_1247 : decode cL_law 1247 = .ok (.goto 29, 3) := dk_at k_dL_law_1237 (i := 6) rfl
theorem dL_law_1250 : decode cL_law 1250 = .ok (.aload_n 1, 1) := dk_at k_dL_law_1237 (i := 7) rfl
theorem dL_law_1251 : decode cL_law 1251 = .ok (.invokevirtual 199, 3) := dk_at k_dL_law_1237 (i := 8) rfl
theorem dL_law_1254 : decode cL_law 1254 = .ok (.pop, 1) := dk_at k_dL_law_1237 (i := 9) rfl
theorem dL_law_1255 : decode cL_law 1255 = .ok (.aload_n 2, 1) := dk_at k_dL_law_1237 (i := 10) rfl
theorem dL_law_1256 : decode cL_law 1256 = .ok (.invokevirtual 203, 3) := dk_at k_dL_law_1237 (i := 11) rfl
theorem dL_law_1259 : decode cL_law 1259 = .ok (.pop, 1) := dk_at k_dL_law_1237 (i := 12) rfl
theorem dL_law_1260 : decode cL_law 1260 = .ok (.goto 16, 3) := dk_at k_dL_law_1237 (i := 13) rfl
theorem dL_law_1263 : decode cL_law 1263 = .ok (.aload_n 1, 1) := dk_at k_dL_law_1237 (i := 14) rfl
theorem dL_law_1264 : decode cL_law 1264 = .ok (.invokevirtual 204, 3) := dk_at k_dL_law_1237 (i := 15) rfl
theorem dL_law_1267 : decode cL_law 1267 = .ok (.pop2, 1) := dk_at k_dL_law_1237 (i := 16) rfl
theorem dL_law_1268 : decode cL_law 1268 = .ok (.aload_n 2, 1) := dk_at k_dL_law_1237 (i := 17) rfl
theorem dL_law_1269 : decode cL_law 1269 = .ok (.invokevirtual 208, 3) := dk_at k_dL_law_1237 (i := 18) rfl
theorem dL_law_1272 : decode cL_law 1272 = .ok (.pop2, 1) := dk_at k_dL_law_1237 (i := 19) rfl
theorem dL_law_1273 : decode cL_law 1273 = .ok (.goto 3, 3) := dk_at k_dL_law_1237 (i := 20) rfl
theorem dL_law_1276 : decode cL_law 1276 = .ok (.iinc 4 5, 3) := dk_at k_dL_law_1237 (i := 21) rfl
theorem dL_law_1279 : decode cL_law 1279 = .ok (.goto (-1252), 3) := dk_at k_dL_law_1237 (i := 22) rfl
theorem dL_law_1282 : decode cL_law 1282 = .ok (.iconst 1, 1) := dk_at k_dL_law_1237 (i := 23) rfl
theorem dL_law_1283 : decode cL_law 1283 = .ok (.ireturn, 1) := dk_at k_dL_law_1237 (i := 24) rfl
/-! THE LAW'S OWN WORDS, and all of them -/
def wB_0 : List Cond := [.classLink RL 19 "java/lang/IllegalArgumentException", .classLink RL 21 "java/lang/IllegalStateException", .methodLink RL 7 yX5_field, .instanceMethod yX5_field, .selects RX5 yX5_field yX5_field, .codeWith yL_field cL_field 4 (some .int) [(0, 10, 13, 19), (0, 10, 16, 21)], .classLink RL 27 "java/lang/IndexOutOfBoundsException", .methodLink RL 23 yX5_oneOf, .instanceMethod yX5_oneOf, .selects RX5 yX5_oneOf yX5_oneOf, .codeWith yL_oneOf cL_oneOf 6 (some .int) [(0, 13, 16, 27), (0, 13, 20, 19), (0, 13, 24, 21)], .methodLink RL 29 yX5_bound, .instanceMethod yX5_bound, .selects RX5 yX5_bound yX5_bound, .codeWith yL_bound cL_bound 7 (some .int) [(0, 15, 18, 27), (0, 15, 22, 19), (0, 15, 26, 21)], .methodLink RL 33 yX5_more, .instanceMethod yX5_more, .selects RX5 yX5_more yX5_more, .codeWith yL_more cL_more 7 (some .int) [(0, 15, 18, 27), (0, 15, 22, 19), (0, 15, 26, 21)], .methodLink RL 37 yX5_unlike, .instanceMethod yX5_unlike, .selects RX5 yX5_unlike yX5_unlike, .codeWith yL_unlike cL_unlike 6 (some .int) [(0, 13, 16, 27), (0, 13, 20, 19), (0, 13, 24, 21)], .methodLink RL 40 yX5_preset, .instanceMethod yX5_preset, .selects RX5 yX5_preset yX5_preset, .codeWith yL_preset cL_preset 7 (some .int) [(0, 15, 18, 27), (0, 15, 22, 19), (0, 15, 26, 21)], .methodLink RL 43 yX5_approve, .instanceMethod yX5_approve, .selects RX5 yX5_approve yX5_approve, .codeWith yL_approve cL_approve 5 (some .int) [(0, 18, 21, 27)], .methodLink RL 47 yX5_withdraw, .instanceMethod yX5_withdraw, .selects RX5 yX5_withdraw yX5_withdraw, .codeWith yL_withdraw cL_withdraw 5 (some .int) [(0, 18, 21, 27)], .methodLink RL 50 yX5_weight, .instanceMethod yX5_weight, .selects RX5 yX5_weight yX5_weight, .codeWith yL_weight cL_weight 5 (some .int) [(0, 11, 14, 27), (0, 11, 18, 19)], .methodLink RL 54 yX5_commit, .instanceMethod yX5_commit, .selects RX5 yX5_commit yX5_commit, .codeWith yL_commit cL_commit 3 (some .int) [(0, 9, 12, 21)], .methodLink RL 58 yX5_wave, .instanceMethod yX5_wave, .selects RX5 yX5_wave yX5_wave, .codeWith yL_wave cL_wave 5 (some .int) [(0, 11, 14, 27), (0, 11, 18, 19)], .methodLink RL 61 yX5_patch, .instanceMethod yX5_patch, .selects RX5 yX5_patch yX5_patch, .codeWith yL_patch cL_patch 6 (some .int) [(0, 13, 16, 27), (0, 13, 20, 19)], .methodLink RL 64 yX5_absorb, .instanceMethod yX5_absorb, .selects RX5 yX5_absorb yX5_absorb, .codeWith yL_absorb cL_absorb 5 (some .int) [(0, 11, 14, 27), (0, 11, 18, 21)], .methodLink RL 67 yX5_ofField, .codeWith yL_ofField cL_ofField 5 (some .int) [(0, 11, 14, 27), (0, 11, 18, 19)], .methodLink RL 70 yX5_ofLine, .codeWith yL_ofLine cL_ofLine 5 (some .int) [(0, 11, 14, 27), (0, 11, 18, 19)], .methodLink RL 73 yX5_ofMachine]
def wB_1 : List Cond := [.codeWith yL_ofMachine cL_ofMachine 5 (some .int) [(0, 11, 14, 27), (0, 11, 18, 19)], .codeWith yL_has cL_has 5 (some .int) [(0, 11, 14, 27)], .codeWith yL_ofCommit cL_ofCommit 5 (some .int) [(0, 11, 14, 27)], .methodLink RL 82 yX5_house, .codeWith yL_house cL_house 4 (some .int) [(0, 10, 13, 19)], .methodLink RL 85 yX5_value, .instanceMethod yX5_value, .selects RX5 yX5_value yX5_value, .codeWith yL_value cL_value 4 (some .int) [(0, 9, 12, 27)], .methodLink RL 93 yX5_reason, .codeWith yL_reason cL_reason 4 (some .int) [(0, 10, 13, 27)], .methodLink RL 96 yX5_met, .instanceMethod yX5_met, .selects RX5 yX5_met yX5_met, .codeWith yL_met cL_met 5 (some .int) [(0, 11, 14, 27), (0, 11, 18, 19)], .methodLink RL 99 yX5_choices, .instanceMethod yX5_choices, .selects RX5 yX5_choices yX5_choices, .codeWith yL_choices cL_choices 5 (some .int) [(0, 11, 14, 27), (0, 11, 18, 19)], .codeWith yL_isNarrower cL_isNarrower 5 (some .int) [(0, 18, 21, 27)], .classLink RL 8 RX5, .instantiable RX5 4, .classLink RL 107 RX8, .instantiable RX8 15, .classLink RL 14 RX6, .instantiable RX6 2, .initialized RX6, .methodLink RL 106 yX5_init, .instanceMethod yX5_init, .methodLink RL 109 yX8_init, .instanceMethod yX8_init, .instanceMethod yX6_init, .methodLink RL 111 yL_field, .static yL_field, .initialized RL, .methodLink RL 116 yX8_field, .instanceMethod yX8_field, .selects RX8 yX8_field yX8_field, .methodLink RL 117 yL_oneOf, .static yL_oneOf, .methodLink RL 120 yX8_oneOf, .instanceMethod yX8_oneOf, .selects RX8 yX8_oneOf yX8_oneOf, .methodLink RL 121 yL_bound, .static yL_bound, .methodLink RL 124 yX8_bound, .instanceMethod yX8_bound, .selects RX8 yX8_bound yX8_bound, .methodLink RL 125 yL_more, .static yL_more, .methodLink RL 128 yX8_more, .instanceMethod yX8_more, .selects RX8 yX8_more yX8_more, .methodLink RL 129 yL_unlike, .static yL_unlike, .methodLink RL 131 yX8_unlike, .instanceMethod yX8_unlike, .selects RX8 yX8_unlike yX8_unlike, .methodLink RL 132 yX8_thrown, .instanceMethod yX8_thrown]
def wB_2 : List Cond := [.selects RX8 yX8_thrown yX8_thrown, .methodLink RL 135 yL_preset, .static yL_preset, .methodLink RL 137 yX8_preset, .instanceMethod yX8_preset, .selects RX8 yX8_preset yX8_preset, .methodLink RL 138 yL_approve, .static yL_approve, .methodLink RL 141 yX8_approve, .instanceMethod yX8_approve, .selects RX8 yX8_approve yX8_approve, .methodLink RL 142 yL_withdraw, .static yL_withdraw, .methodLink RL 144 yX8_withdraw, .instanceMethod yX8_withdraw, .selects RX8 yX8_withdraw yX8_withdraw, .methodLink RL 145 yL_weight, .static yL_weight, .methodLink RL 148 yX8_weight, .instanceMethod yX8_weight, .selects RX8 yX8_weight yX8_weight, .methodLink RL 149 yL_commit, .static yL_commit, .methodLink RL 152 yX8_commit, .instanceMethod yX8_commit, .selects RX8 yX8_commit yX8_commit, .methodLink RL 153 yL_wave, .static yL_wave, .methodLink RL 155 yX8_wave, .instanceMethod yX8_wave, .selects RX8 yX8_wave yX8_wave, .methodLink RL 156 yL_patch, .static yL_patch, .methodLink RL 158 yX8_patch, .instanceMethod yX8_patch, .selects RX8 yX8_patch yX8_patch, .methodLink RL 159 yL_absorb, .static yL_absorb, .methodLink RL 161 yX8_absorb, .instanceMethod yX8_absorb, .selects RX8 yX8_absorb yX8_absorb, .methodLink RL 162 yX5_knock, .instanceMethod yX5_knock, .selects RX5 yX5_knock yX5_knock, .methodLink RL 165 yX8_knock, .instanceMethod yX8_knock, .selects RX8 yX8_knock yX8_knock, .methodLink RL 166 yL_ofField, .static yL_ofField, .methodLink RL 168 yX8_ofField, .instanceMethod yX8_ofField, .selects RX8 yX8_ofField yX8_ofField, .methodLink RL 169 yL_ofLine, .static yL_ofLine, .methodLink RL 171 yX8_ofLine, .instanceMethod yX8_ofLine, .selects RX8 yX8_ofLine yX8_ofLine, .methodLink RL 172 yL_ofMachine, .static yL_ofMachine, .methodLink RL 174 yX8_ofMachine]
def wB_3 : List Cond := [.instanceMethod yX8_ofMachine, .selects RX8 yX8_ofMachine yX8_ofMachine, .methodLink RL 175 yL_has, .static yL_has, .methodLink RL 76 yX5_has, .methodLink RL 177 yX8_has, .instanceMethod yX8_has, .selects RX8 yX8_has yX8_has, .methodLink RL 178 yL_ofCommit, .static yL_ofCommit, .methodLink RL 79 yX5_ofCommit, .methodLink RL 180 yX8_ofCommit, .instanceMethod yX8_ofCommit, .selects RX8 yX8_ofCommit yX8_ofCommit, .methodLink RL 181 yL_house, .static yL_house, .methodLink RL 183 yX8_house, .instanceMethod yX8_house, .selects RX8 yX8_house yX8_house, .methodLink RL 184 yL_value, .static yL_value, .methodLink RL 186 yX8_value, .instanceMethod yX8_value, .selects RX8 yX8_value yX8_value, .methodLink RL 187 yL_reason, .static yL_reason, .methodLink RL 189 yX8_reason, .instanceMethod yX8_reason, .selects RX8 yX8_reason yX8_reason, .methodLink RL 190 yL_met, .static yL_met, .methodLink RL 192 yX8_met, .instanceMethod yX8_met, .selects RX8 yX8_met yX8_met, .methodLink RL 193 yL_choices, .static yL_choices, .methodLink RL 195 yX8_choices, .instanceMethod yX8_choices, .selects RX8 yX8_choices yX8_choices, .methodLink RL 196 yL_isNarrower, .static yL_isNarrower, .methodLink RL 102 yX5_isNarrower, .instanceMethod yX5_isNarrower, .selects RX5 yX5_isNarrower yX5_isNarrower, .methodLink RL 198 yX8_isNarrower, .instanceMethod yX8_isNarrower, .selects RX8 yX8_isNarrower yX8_isNarrower, .methodLink RL 199 yX5_isSound, .methodLink RL 203 yX8_isSound, .instanceMethod yX8_isSound, .selects RX8 yX8_isSound yX8_isSound, .methodLink RL 204 yX5_digest, .instanceMethod yX5_digest, .selects RX5 yX5_digest yX5_digest, .methodLink RL 208 yX8_digest, .instanceMethod yX8_digest, .selects RX8 yX8_digest yX8_digest]
def wLO : List Cond := wB_0 ++ (wB_1 ++ (wB_2 ++ (wB_3 ++ (u_ws RX6 TX6 2))))
def wLAW : List Cond := wLO ++ wALL
theorem iB_0 : ∀ w ∈ wB_0, w ∈ wLAW := fun _ h => List.mem_append_left _ (List.mem_append_left _ h)
theorem iB_1 : ∀ w ∈ wB_1, w ∈ wLAW := fun _ h => List.mem_append_left _ (List.mem_append_right _ (List.mem_append_left _ h))
theorem iB_2 : ∀ w ∈ wB_2, w ∈ wLAW := fun _ h => List.mem_append_left _ (List.mem_append_right _ (List.mem_append_right _ (List.mem_append_left _ h)))
theorem iB_3 : ∀ w ∈ wB_3, w ∈ wLAW := fun _ h => List.mem_append_left _ (List.mem_append_right _ (List.mem_append_right _ (List.mem_append_right _ (List.mem_append_left _ h))))
theorem iUB_X6 : ∀ w ∈ u_ws RX6 TX6 2, w ∈ wLAW := fun _ h => List.mem_append_left _ (List.mem_append_right _ (List.mem_append_right _ (List.mem_append_right _ (List.mem_append_right _ h))))
theorem iB_A : ∀ w ∈ wALL, w ∈ wLAW := fun _ h => List.mem_append_right _ h
theorem B_0 : (Cond.classLink RL 19 "java/lang/IllegalArgumentException" : Cond) ∈ wLAW := iB_0 _ (List.mem_of_getElem? (i := 0) rfl)
theorem B_1 : (Cond.classLink RL 21 "java/lang/IllegalStateException" : Cond) ∈ wLAW := iB_0 _ (List.mem_of_getElem? (i := 1) rfl)
theorem B_2 : (Cond.methodLink RL 7 yX5_field : Cond) ∈ wLAW := iB_0 _ (List.mem_of_getElem? (i := 2) rfl)
theorem B_3 : (Cond.instanceMethod yX5_field : Cond) ∈ wLAW := iB_0 _ (List.mem_of_getElem? (i := 3) rfl)
theorem B_4 : (Cond.selects RX5 yX5_field yX5_field : Cond) ∈ wLAW := iB_0 _ (List.mem_of_getElem? (i := 4) rfl)
theorem B_5 : (Cond.codeWith yL_field cL_field 4 (some .int) [(0, 10, 13, 19), (0, 10, 16, 21)] : Cond) ∈ wLAW := iB_0 _ (List.mem_of_getElem? (i := 5) rfl)
theorem B_6 : (Cond.classLink RL 27 "java/lang/IndexOutOfBoundsException" : Cond) ∈ wLAW := iB_0 _ (List.mem_of_getElem? (i := 6) rfl)
theorem B_7 : (Cond.methodLink RL 23 yX5_oneOf : Cond) ∈ wLAW := iB_0 _ (List.mem_of_getElem? (i := 7) rfl)
theorem B_8 : (Cond.instanceMethod yX5_oneOf : Cond) ∈ wLAW := iB_0 _ (List.mem_of_getElem? (i := 8) rfl)
theorem B_9 : (Cond.selects RX5 yX5_oneOf yX5_oneOf : Cond) ∈ wLAW := iB_0 _ (List.mem_of_getElem? (i := 9) rfl)
theorem B_10 : (Cond.codeWith yL_oneOf cL_oneOf 6 (some .int) [(0, 13, 16, 27), (0, 13, 20, 19), (0, 13, 24, 21)] : Cond) ∈ wLAW := iB_0 _ (List.mem_of_getElem? (i := 10) rfl)
theorem B_11 : (Cond.methodLink RL 29 yX5_bound : Cond) ∈ wLAW := iB_0 _ (List.mem_of_getElem? (i := 11) rfl)
theorem B_12 : (Cond.instanceMethod yX5_bound : Cond) ∈ wLAW := iB_0 _ (List.mem_of_getElem? (i := 12) rfl)
theorem B_13 : (Cond.selects RX5 yX5_bound yX5_bound : Cond) ∈ wLAW := iB_0 _ (List.mem_of_getElem? (i := 13) rfl)
theorem B_14 : (Cond.codeWith yL_bound cL_bound 7 (some .int) [(0, 15, 18, 27), (0, 15, 22, 19), (0, 15, 26, 21)] : Cond) ∈ wLAW := iB_0 _ (List.mem_of_getElem? (i := 14) rfl)
theorem B_15 : (Cond.methodLink RL 33 yX5_more : Cond) ∈ wLAW := iB_0 _ (List.mem_of_getElem? (i := 15) rfl)
theorem B_16 : (Cond.instanceMethod yX5_more : Cond) ∈ wLAW := iB_0 _ (List.mem_of_getElem? (i := 16) rfl)
theorem B_17 : (Cond.selects RX5 yX5_more yX5_more : Cond) ∈ wLAW := iB_0 _ (List.mem_of_getElem? (i := 17) rfl)
theorem B_18 : (Cond.codeWith yL_more cL_more 7 (some .int) [(0, 15, 18, 27), (0, 15, 22, 19), (0, 15, 26, 21)] : Cond) ∈ wLAW := iB_0 _ (List.mem_of_getElem? (i := 18) rfl)
theorem B_19 : (Cond.methodLink RL 37 yX5_unlike : Cond) ∈ wLAW := iB_0 _ (List.mem_of_getElem? (i := 19) rfl)
theorem B_20 : (Cond.instanceMethod yX5_unlike : Cond) ∈ wLAW := iB_0 _ (List.mem_of_getElem? (i := 20) rfl)
theorem B_21 : (Cond.selects RX5 yX5_unlike yX5_unlike : Cond) ∈ wLAW := iB_0 _ (List.mem_of_getElem? (i := 21) rfl)
theorem B_22 : (Cond.codeWith yL_unlike cL_unlike 6 (some .int) [(0, 13, 16, 27), (0, 13, 20, 19), (0, 13, 24, 21)] : Cond) ∈ wLAW := iB_0 _ (List.mem_of_getElem? (i := 22) rfl)
theorem B_23 : (Cond.methodLink RL 40 yX5_preset : Cond) ∈ wLAW := iB_0 _ (List.mem_of_getElem? (i := 23) rfl)
theorem B_24 : (Cond.instanceMethod yX5_preset : Cond) ∈ wLAW := iB_0 _ (List.mem_of_getElem? (i := 24) rfl)
theorem B_25 : (Cond.selects RX5 yX5_preset yX5_preset : Cond) ∈ wLAW := iB_0 _ (List.mem_of_getElem? (i := 25) rfl)
theorem B_26 : (Cond.codeWith yL_preset cL_preset 7 (some .int) [(0, 15, 18, 27), (0, 15, 22, 19), (0, 15, 26, 21)] : Cond) ∈ wLAW := iB_0 _ (List.mem_of_getElem? (i := 26) rfl)
theorem B_27 : (Cond.methodLink RL 43 yX5_approve : Cond) ∈ wLAW := iB_0 _ (List.mem_of_getElem? (i := 27) rfl)
theorem B_28 : (Cond.instanceMethod yX5_approve : Cond) ∈ wLAW := iB_0 _ (List.mem_of_getElem? (i := 28) rfl)
theorem B_29 : (Cond.selects RX5 yX5_approve yX5_approve : Cond) ∈ wLAW := iB_0 _ (List.mem_of_getElem? (i := 29) rfl)
theorem B_30 : (Cond.codeWith yL_approve cL_approve 5 (some .int) [(0, 18, 21, 27)] : Cond) ∈ wLAW := iB_0 _ (List.mem_of_getElem? (i := 30) rfl)
theorem B_31 : (Cond.methodLink RL 47 yX5_withdraw : Cond) ∈ wLAW := iB_0 _ (List.mem_of_getElem? (i := 31) rfl)
theorem B_32 : (Cond.instanceMethod yX5_withdraw : Cond) ∈ wLAW := iB_0 _ (List.mem_of_getElem? (i := 32) rfl)
theorem B_33 : (Cond.selects RX5 yX5_withdraw yX5_withdraw : Cond) ∈ wLAW := iB_0 _ (List.mem_of_getElem? (i := 33) rfl)
theorem B_34 : (Cond.codeWith yL_withdraw cL_withdraw 5 (some .int) [(0, 18, 21, 27)] : Cond) ∈ wLAW := iB_0 _ (List.mem_of_getElem? (i := 34) rfl)
theorem B_35 : (Cond.methodLink RL 50 yX5_weight : Cond) ∈ wLAW := iB_0 _ (List.mem_of_getElem? (i := 35) rfl)
theorem B_36 : (Cond.instanceMethod yX5_weight : Cond) ∈ wLAW := iB_0 _ (List.mem_of_getElem? (i := 36) rfl)
theorem B_37 : (Cond.selects RX5 yX5_weight yX5_weight : Cond) ∈ wLAW := iB_0 _ (List.mem_of_getElem? (i := 37) rfl)
theorem B_38 : (Cond.codeWith yL_weight cL_weight 5 (some .int) [(0, 11, 14, 27), (0, 11, 18, 19)] : Cond) ∈ wLAW := iB_0 _ (List.mem_of_getElem? (i := 38) rfl)
theorem B_39 : (Cond.methodLink RL 54 yX5_commit : Cond) ∈ wLAW := iB_0 _ (List.mem_of_getElem? (i := 39) rfl)
theorem B_40 : (Cond.instanceMethod yX5_commit : Cond) ∈ wLAW := iB_0 _ (List.mem_of_getElem? (i := 40) rfl)
theorem B_41 : (Cond.selects RX5 yX5_commit yX5_commit : Cond) ∈ wLAW := iB_0 _ (List.mem_of_getElem? (i := 41) rfl)
theorem B_42 : (Cond.codeWith yL_commit cL_commit 3 (some .int) [(0, 9, 12, 21)] : Cond) ∈ wLAW := iB_0 _ (List.mem_of_getElem? (i := 42) rfl)
theorem B_43 : (Cond.methodLink RL 58 yX5_wave : Cond) ∈ wLAW := iB_0 _ (List.mem_of_getElem? (i := 43) rfl)
theorem B_44 : (Cond.instanceMethod yX5_wave : Cond) ∈ wLAW := iB_0 _ (List.mem_of_getElem? (i := 44) rfl)
theorem B_45 : (Cond.selects RX5 yX5_wave yX5_wave : Cond) ∈ wLAW := iB_0 _ (List.mem_of_getElem? (i := 45) rfl)
theorem B_46 : (Cond.codeWith yL_wave cL_wave 5 (some .int) [(0, 11, 14, 27), (0, 11, 18, 19)] : Cond) ∈ wLAW := iB_0 _ (List.mem_of_getElem? (i := 46) rfl)
theorem B_47 : (Cond.methodLink RL 61 yX5_patch : Cond) ∈ wLAW := iB_0 _ (List.mem_of_getElem? (i := 47) rfl)
theorem B_48 : (Cond.instanceMethod yX5_patch : Cond) ∈ wLAW := iB_0 _ (List.mem_of_getElem? (i := 48) rfl)
theorem B_49 : (Cond.selects RX5 yX5_patch yX5_patch : Cond) ∈ wLAW := iB_0 _ (List.mem_of_getElem? (i := 49) rfl)
theorem B_50 : (Cond.codeWith yL_patch cL_patch 6 (some .int) [(0, 13, 16, 27), (0, 13, 20, 19)] : Cond) ∈ wLAW := iB_0 _ (List.mem_of_getElem? (i := 50) rfl)
theorem B_51 : (Cond.methodLink RL 64 yX5_absorb : Cond) ∈ wLAW := iB_0 _ (List.mem_of_getElem? (i := 51) rfl)
theorem B_52 : (Cond.instanceMethod yX5_absorb : Cond) ∈ wLAW := iB_0 _ (List.mem_of_getElem? (i := 52) rfl)
theorem B_53 : (Cond.selects RX5 yX5_absorb yX5_absorb : Cond) ∈ wLAW := iB_0 _ (List.mem_of_getElem? (i := 53) rfl)
theorem B_54 : (Cond.codeWith yL_absorb cL_absorb 5 (some .int) [(0, 11, 14, 27), (0, 11, 18, 21)] : Cond) ∈ wLAW := iB_0 _ (List.mem_of_getElem? (i := 54) rfl)
theorem B_55 : (Cond.methodLink RL 67 yX5_ofField : Cond) ∈ wLAW := iB_0 _ (List.mem_of_getElem? (i := 55) rfl)
theorem B_56 : (Cond.codeWith yL_ofField cL_ofField 5 (some .int) [(0, 11, 14, 27), (0, 11, 18, 19)] : Cond) ∈ wLAW := iB_0 _ (List.mem_of_getElem? (i := 56) rfl)
theorem B_57 : (Cond.methodLink RL 70 yX5_ofLine : Cond) ∈ wLAW := iB_0 _ (List.mem_of_getElem? (i := 57) rfl)
theorem B_58 : (Cond.codeWith yL_ofLine cL_ofLine 5 (some .int) [(0, 11, 14, 27), (0, 11, 18, 19)] : Cond) ∈ wLAW := iB_0 _ (List.mem_of_getElem? (i := 58) rfl)
theorem B_59 : (Cond.methodLink RL 73 yX5_ofMachine : Cond) ∈ wLAW := iB_0 _ (List.mem_of_getElem? (i := 59) rfl)
theorem B_60 : (Cond.codeWith yL_ofMachine cL_ofMachine 5 (some .int) [(0, 11, 14, 27), (0, 11, 18, 19)] : Cond) ∈ wLAW := iB_1 _ (List.mem_of_getElem? (i := 0) rfl)
theorem B_61 : (Cond.codeWith yL_has cL_has 5 (some .int) [(0, 11, 14, 27)] : Cond) ∈ wLAW := iB_1 _ (List.mem_of_getElem? (i := 1) rfl)
theorem B_62 : (Cond.codeWith yL_ofCommit cL_ofCommit 5 (some .int) [(0, 11, 14, 27)] : Cond) ∈ wLAW := iB_1 _ (List.mem_of_getElem? (i := 2) rfl)
theorem B_63 : (Cond.methodLink RL 82 yX5_house : Cond) ∈ wLAW := iB_1 _ (List.mem_of_getElem? (i := 3) rfl)
theorem B_64 : (Cond.codeWith yL_house cL_house 4 (some .int) [(0, 10, 13, 19)] : Cond) ∈ wLAW := iB_1 _ (List.mem_of_getElem? (i := 4) rfl)
theorem B_65 : (Cond.methodLink RL 85 yX5_value : Cond) ∈ wLAW := iB_1 _ (List.mem_of_getElem? (i := 5) rfl)
theorem B_66 : (Cond.instanceMethod yX5_value : Cond) ∈ wLAW := iB_1 _ (List.mem_of_getElem? (i := 6) rfl)
theorem B_67 : (Cond.selects RX5 yX5_value yX5_value : Cond) ∈ wLAW := iB_1 _ (List.mem_of_getElem? (i := 7) rfl)
theorem B_68 : (Cond.codeWith yL_value cL_value 4 (some .int) [(0, 9, 12, 27)] : Cond) ∈ wLAW := iB_1 _ (List.mem_of_getElem? (i := 8) rfl)
theorem B_69 : (Cond.methodLink RL 93 yX5_reason : Cond) ∈ wLAW := iB_1 _ (List.mem_of_getElem? (i := 9) rfl)
theorem B_70 : (Cond.codeWith yL_reason cL_reason 4 (some .int) [(0, 10, 13, 27)] : Cond) ∈ wLAW := iB_1 _ (List.mem_of_getElem? (i := 10) rfl)
theorem B_71 : (Cond.methodLink RL 96 yX5_met : Cond) ∈ wLAW := iB_1 _ (List.mem_of_getElem? (i := 11) rfl)
theorem B_72 : (Cond.instanceMethod yX5_met : Cond) ∈ wLAW := iB_1 _ (List.mem_of_getElem? (i := 12) rfl)
theorem B_73 : (Cond.selects RX5 yX5_met yX5_met : Cond) ∈ wLAW := iB_1 _ (List.mem_of_getElem? (i := 13) rfl)
theorem B_74 : (Cond.codeWith yL_met cL_met 5 (some .int) [(0, 11, 14, 27), (0, 11, 18, 19)] : Cond) ∈ wLAW := iB_1 _ (List.mem_of_getElem? (i := 14) rfl)
theorem B_75 : (Cond.methodLink RL 99 yX5_choices : Cond) ∈ wLAW := iB_1 _ (List.mem_of_getElem? (i := 15) rfl)
theorem B_76 : (Cond.instanceMethod yX5_choices : Cond) ∈ wLAW := iB_1 _ (List.mem_of_getElem? (i := 16) rfl)
theorem B_77 : (Cond.selects RX5 yX5_choices yX5_choices : Cond) ∈ wLAW := iB_1 _ (List.mem_of_getElem? (i := 17) rfl)
theorem B_78 : (Cond.codeWith yL_choices cL_choices 5 (some .int) [(0, 11, 14, 27), (0, 11, 18, 19)] : Cond) ∈ wLAW := iB_1 _ (List.mem_of_getElem? (i := 18) rfl)
theorem B_79 : (Cond.codeWith yL_isNarrower cL_isNarrower 5 (some .int) [(0, 18, 21, 27)] : Cond) ∈ wLAW := iB_1 _ (List.mem_of_getElem? (i := 19) rfl)
theorem B_80 : (Cond.classLink RL 8 RX5 : Cond) ∈ wLAW := iB_1 _ (List.mem_of_getElem? (i := 20) rfl)
theorem B_81 : (Cond.instantiable RX5 4 : Cond) ∈ wLAW := iB_1 _ (List.mem_of_getElem? (i := 21) rfl)
theorem B_82 : (Cond.classLink RL 107 RX8 : Cond) ∈ wLAW := iB_1 _ (List.mem_of_getElem? (i := 22) rfl)
theorem B_83 : (Cond.instantiable RX8 15 : Cond) ∈ wLAW := iB_1 _ (List.mem_of_getElem? (i := 23) rfl)
theorem B_84 : (Cond.classLink RL 14 RX6 : Cond) ∈ wLAW := iB_1 _ (List.mem_of_getElem? (i := 24) rfl)
theorem B_85 : (Cond.instantiable RX6 2 : Cond) ∈ wLAW := iB_1 _ (List.mem_of_getElem? (i := 25) rfl)
theorem B_86 : (Cond.initialized RX6 : Cond) ∈ wLAW := iB_1 _ (List.mem_of_getElem? (i := 26) rfl)
theorem B_87 : (Cond.methodLink RL 106 yX5_init : Cond) ∈ wLAW := iB_1 _ (List.mem_of_getElem? (i := 27) rfl)
theorem B_88 : (Cond.instanceMethod yX5_init : Cond) ∈ wLAW := iB_1 _ (List.mem_of_getElem? (i := 28) rfl)
theorem B_89 : (Cond.methodLink RL 109 yX8_init : Cond) ∈ wLAW := iB_1 _ (List.mem_of_getElem? (i := 29) rfl)
theorem B_90 : (Cond.instanceMethod yX8_init : Cond) ∈ wLAW := iB_1 _ (List.mem_of_getElem? (i := 30) rfl)
theorem B_91 : (Cond.instanceMethod yX6_init : Cond) ∈ wLAW := iB_1 _ (List.mem_of_getElem? (i := 31) rfl)
theorem B_92 : (Cond.methodLink RL 111 yL_field : Cond) ∈ wLAW := iB_1 _ (List.mem_of_getElem? (i := 32) rfl)
theorem B_93 : (Cond.static yL_field : Cond) ∈ wLAW := iB_1 _ (List.mem_of_getElem? (i := 33) rfl)
theorem B_94 : (Cond.initialized RL : Cond) ∈ wLAW := iB_1 _ (List.mem_of_getElem? (i := 34) rfl)
theorem B_95 : (Cond.methodLink RL 116 yX8_field : Cond) ∈ wLAW := iB_1 _ (List.mem_of_getElem? (i := 35) rfl)
theorem B_96 : (Cond.instanceMethod yX8_field : Cond) ∈ wLAW := iB_1 _ (List.mem_of_getElem? (i := 36) rfl)
theorem B_97 : (Cond.selects RX8 yX8_field yX8_field : Cond) ∈ wLAW := iB_1 _ (List.mem_of_getElem? (i := 37) rfl)
theorem B_98 : (Cond.methodLink RL 117 yL_oneOf : Cond) ∈ wLAW := iB_1 _ (List.mem_of_getElem? (i := 38) rfl)
theorem B_99 : (Cond.static yL_oneOf : Cond) ∈ wLAW := iB_1 _ (List.mem_of_getElem? (i := 39) rfl)
theorem B_100 : (Cond.methodLink RL 120 yX8_oneOf : Cond) ∈ wLAW := iB_1 _ (List.mem_of_getElem? (i := 40) rfl)
theorem B_101 : (Cond.instanceMethod yX8_oneOf : Cond) ∈ wLAW := iB_1 _ (List.mem_of_getElem? (i := 41) rfl)
theorem B_102 : (Cond.selects RX8 yX8_oneOf yX8_oneOf : Cond) ∈ wLAW := iB_1 _ (List.mem_of_getElem? (i := 42) rfl)
theorem B_103 : (Cond.methodLink RL 121 yL_bound : Cond) ∈ wLAW := iB_1 _ (List.mem_of_getElem? (i := 43) rfl)
theorem B_104 : (Cond.static yL_bound : Cond) ∈ wLAW := iB_1 _ (List.mem_of_getElem? (i := 44) rfl)
theorem B_105 : (Cond.methodLink RL 124 yX8_bound : Cond) ∈ wLAW := iB_1 _ (List.mem_of_getElem? (i := 45) rfl)
theorem B_106 : (Cond.instanceMethod yX8_bound : Cond) ∈ wLAW := iB_1 _ (List.mem_of_getElem? (i := 46) rfl)
theorem B_107 : (Cond.selects RX8 yX8_bound yX8_bound : Cond) ∈ wLAW := iB_1 _ (List.mem_of_getElem? (i := 47) rfl)
theorem B_108 : (Cond.methodLink RL 125 yL_more : Cond) ∈ wLAW := iB_1 _ (List.mem_of_getElem? (i := 48) rfl)
theorem B_109 : (Cond.static yL_more : Cond) ∈ wLAW := iB_1 _ (List.mem_of_getElem? (i := 49) rfl)
theorem B_110 : (Cond.methodLink RL 128 yX8_more : Cond) ∈ wLAW := iB_1 _ (List.mem_of_getElem? (i := 50) rfl)
theorem B_111 : (Cond.instanceMethod yX8_more : Cond) ∈ wLAW := iB_1 _ (List.mem_of_getElem? (i := 51) rfl)
theorem B_112 : (Cond.selects RX8 yX8_more yX8_more : Cond) ∈ wLAW := iB_1 _ (List.mem_of_getElem? (i := 52) rfl)
theorem B_113 : (Cond.methodLink RL 129 yL_unlike : Cond) ∈ wLAW := iB_1 _ (List.mem_of_getElem? (i := 53) rfl)
theorem B_114 : (Cond.static yL_unlike : Cond) ∈ wLAW := iB_1 _ (List.mem_of_getElem? (i := 54) rfl)
theorem B_115 : (Cond.methodLink RL 131 yX8_unlike : Cond) ∈ wLAW := iB_1 _ (List.mem_of_getElem? (i := 55) rfl)
theorem B_116 : (Cond.instanceMethod yX8_unlike : Cond) ∈ wLAW := iB_1 _ (List.mem_of_getElem? (i := 56) rfl)
theorem B_117 : (Cond.selects RX8 yX8_unlike yX8_unlike : Cond) ∈ wLAW := iB_1 _ (List.mem_of_getElem? (i := 57) rfl)
theorem B_118 : (Cond.methodLink RL 132 yX8_thrown : Cond) ∈ wLAW := iB_1 _ (List.mem_of_getElem? (i := 58) rfl)
theorem B_119 : (Cond.instanceMethod yX8_thrown : Cond) ∈ wLAW := iB_1 _ (List.mem_of_getElem? (i := 59) rfl)
theorem B_120 : (Cond.selects RX8 yX8_thrown yX8_thrown : Cond) ∈ wLAW := iB_2 _ (List.mem_of_getElem? (i := 0) rfl)
theorem B_121 : (Cond.methodLink RL 135 yL_preset : Cond) ∈ wLAW := iB_2 _ (List.mem_of_getElem? (i := 1) rfl)
theorem B_122 : (Cond.static yL_preset : Cond) ∈ wLAW := iB_2 _ (List.mem_of_getElem? (i := 2) rfl)
theorem B_123 : (Cond.methodLink RL 137 yX8_preset : Cond) ∈ wLAW := iB_2 _ (List.mem_of_getElem? (i := 3) rfl)
theorem B_124 : (Cond.instanceMethod yX8_preset : Cond) ∈ wLAW := iB_2 _ (List.mem_of_getElem? (i := 4) rfl)
theorem B_125 : (Cond.selects RX8 yX8_preset yX8_preset : Cond) ∈ wLAW := iB_2 _ (List.mem_of_getElem? (i := 5) rfl)
theorem B_126 : (Cond.methodLink RL 138 yL_approve : Cond) ∈ wLAW := iB_2 _ (List.mem_of_getElem? (i := 6) rfl)
theorem B_127 : (Cond.static yL_approve : Cond) ∈ wLAW := iB_2 _ (List.mem_of_getElem? (i := 7) rfl)
theorem B_128 : (Cond.methodLink RL 141 yX8_approve : Cond) ∈ wLAW := iB_2 _ (List.mem_of_getElem? (i := 8) rfl)
theorem B_129 : (Cond.instanceMethod yX8_approve : Cond) ∈ wLAW := iB_2 _ (List.mem_of_getElem? (i := 9) rfl)
theorem B_130 : (Cond.selects RX8 yX8_approve yX8_approve : Cond) ∈ wLAW := iB_2 _ (List.mem_of_getElem? (i := 10) rfl)
theorem B_131 : (Cond.methodLink RL 142 yL_withdraw : Cond) ∈ wLAW := iB_2 _ (List.mem_of_getElem? (i := 11) rfl)
theorem B_132 : (Cond.static yL_withdraw : Cond) ∈ wLAW := iB_2 _ (List.mem_of_getElem? (i := 12) rfl)
theorem B_133 : (Cond.methodLink RL 144 yX8_withdraw : Cond) ∈ wLAW := iB_2 _ (List.mem_of_getElem? (i := 13) rfl)
theorem B_134 : (Cond.instanceMethod yX8_withdraw : Cond) ∈ wLAW := iB_2 _ (List.mem_of_getElem? (i := 14) rfl)
theorem B_135 : (Cond.selects RX8 yX8_withdraw yX8_withdraw : Cond) ∈ wLAW := iB_2 _ (List.mem_of_getElem? (i := 15) rfl)
theorem B_136 : (Cond.methodLink RL 145 yL_weight : Cond) ∈ wLAW := iB_2 _ (List.mem_of_getElem? (i := 16) rfl)
theorem B_137 : (Cond.static yL_weight : Cond) ∈ wLAW := iB_2 _ (List.mem_of_getElem? (i := 17) rfl)
theorem B_138 : (Cond.methodLink RL 148 yX8_weight : Cond) ∈ wLAW := iB_2 _ (List.mem_of_getElem? (i := 18) rfl)
theorem B_139 : (Cond.instanceMethod yX8_weight : Cond) ∈ wLAW := iB_2 _ (List.mem_of_getElem? (i := 19) rfl)
theorem B_140 : (Cond.selects RX8 yX8_weight yX8_weight : Cond) ∈ wLAW := iB_2 _ (List.mem_of_getElem? (i := 20) rfl)
theorem B_141 : (Cond.methodLink RL 149 yL_commit : Cond) ∈ wLAW := iB_2 _ (List.mem_of_getElem? (i := 21) rfl)
theorem B_142 : (Cond.static yL_commit : Cond) ∈ wLAW := iB_2 _ (List.mem_of_getElem? (i := 22) rfl)
theorem B_143 : (Cond.methodLink RL 152 yX8_commit : Cond) ∈ wLAW := iB_2 _ (List.mem_of_getElem? (i := 23) rfl)
theorem B_144 : (Cond.instanceMethod yX8_commit : Cond) ∈ wLAW := iB_2 _ (List.mem_of_getElem? (i := 24) rfl)
theorem B_145 : (Cond.selects RX8 yX8_commit yX8_commit : Cond) ∈ wLAW := iB_2 _ (List.mem_of_getElem? (i := 25) rfl)
theorem B_146 : (Cond.methodLink RL 153 yL_wave : Cond) ∈ wLAW := iB_2 _ (List.mem_of_getElem? (i := 26) rfl)
theorem B_147 : (Cond.static yL_wave : Cond) ∈ wLAW := iB_2 _ (List.mem_of_getElem? (i := 27) rfl)
theorem B_148 : (Cond.methodLink RL 155 yX8_wave : Cond) ∈ wLAW := iB_2 _ (List.mem_of_getElem? (i := 28) rfl)
theorem B_149 : (Cond.instanceMethod yX8_wave : Cond) ∈ wLAW := iB_2 _ (List.mem_of_getElem? (i := 29) rfl)
theorem B_150 : (Cond.selects RX8 yX8_wave yX8_wave : Cond) ∈ wLAW := iB_2 _ (List.mem_of_getElem? (i := 30) rfl)
theorem B_151 : (Cond.methodLink RL 156 yL_patch : Cond) ∈ wLAW := iB_2 _ (List.mem_of_getElem? (i := 31) rfl)
theorem B_152 : (Cond.static yL_patch : Cond) ∈ wLAW := iB_2 _ (List.mem_of_getElem? (i := 32) rfl)
theorem B_153 : (Cond.methodLink RL 158 yX8_patch : Cond) ∈ wLAW := iB_2 _ (List.mem_of_getElem? (i := 33) rfl)
theorem B_154 : (Cond.instanceMethod yX8_patch : Cond) ∈ wLAW := iB_2 _ (List.mem_of_getElem? (i := 34) rfl)
theorem B_155 : (Cond.selects RX8 yX8_patch yX8_patch : Cond) ∈ wLAW := iB_2 _ (List.mem_of_getElem? (i := 35) rfl)
theorem B_156 : (Cond.methodLink RL 159 yL_absorb : Cond) ∈ wLAW := iB_2 _ (List.mem_of_getElem? (i := 36) rfl)
theorem B_157 : (Cond.static yL_absorb : Cond) ∈ wLAW := iB_2 _ (List.mem_of_getElem? (i := 37) rfl)
theorem B_158 : (Cond.methodLink RL 161 yX8_absorb : Cond) ∈ wLAW := iB_2 _ (List.mem_of_getElem? (i := 38) rfl)
theorem B_159 : (Cond.instanceMethod yX8_absorb : Cond) ∈ wLAW := iB_2 _ (List.mem_of_getElem? (i := 39) rfl)
theorem B_160 : (Cond.selects RX8 yX8_absorb yX8_absorb : Cond) ∈ wLAW := iB_2 _ (List.mem_of_getElem? (i := 40) rfl)
theorem B_161 : (Cond.methodLink RL 162 yX5_knock : Cond) ∈ wLAW := iB_2 _ (List.mem_of_getElem? (i := 41) rfl)
theorem B_162 : (Cond.instanceMethod yX5_knock : Cond) ∈ wLAW := iB_2 _ (List.mem_of_getElem? (i := 42) rfl)
theorem B_163 : (Cond.selects RX5 yX5_knock yX5_knock : Cond) ∈ wLAW := iB_2 _ (List.mem_of_getElem? (i := 43) rfl)
theorem B_164 : (Cond.methodLink RL 165 yX8_knock : Cond) ∈ wLAW := iB_2 _ (List.mem_of_getElem? (i := 44) rfl)
theorem B_165 : (Cond.instanceMethod yX8_knock : Cond) ∈ wLAW := iB_2 _ (List.mem_of_getElem? (i := 45) rfl)
theorem B_166 : (Cond.selects RX8 yX8_knock yX8_knock : Cond) ∈ wLAW := iB_2 _ (List.mem_of_getElem? (i := 46) rfl)
theorem B_167 : (Cond.methodLink RL 166 yL_ofField : Cond) ∈ wLAW := iB_2 _ (List.mem_of_getElem? (i := 47) rfl)
theorem B_168 : (Cond.static yL_ofField : Cond) ∈ wLAW := iB_2 _ (List.mem_of_getElem? (i := 48) rfl)
theorem B_169 : (Cond.methodLink RL 168 yX8_ofField : Cond) ∈ wLAW := iB_2 _ (List.mem_of_getElem? (i := 49) rfl)
theorem B_170 : (Cond.instanceMethod yX8_ofField : Cond) ∈ wLAW := iB_2 _ (List.mem_of_getElem? (i := 50) rfl)
theorem B_171 : (Cond.selects RX8 yX8_ofField yX8_ofField : Cond) ∈ wLAW := iB_2 _ (List.mem_of_getElem? (i := 51) rfl)
theorem B_172 : (Cond.methodLink RL 169 yL_ofLine : Cond) ∈ wLAW := iB_2 _ (List.mem_of_getElem? (i := 52) rfl)
theorem B_173 : (Cond.static yL_ofLine : Cond) ∈ wLAW := iB_2 _ (List.mem_of_getElem? (i := 53) rfl)
theorem B_174 : (Cond.methodLink RL 171 yX8_ofLine : Cond) ∈ wLAW := iB_2 _ (List.mem_of_getElem? (i := 54) rfl)
theorem B_175 : (Cond.instanceMethod yX8_ofLine : Cond) ∈ wLAW := iB_2 _ (List.mem_of_getElem? (i := 55) rfl)
theorem B_176 : (Cond.selects RX8 yX8_ofLine yX8_ofLine : Cond) ∈ wLAW := iB_2 _ (List.mem_of_getElem? (i := 56) rfl)
theorem B_177 : (Cond.methodLink RL 172 yL_ofMachine : Cond) ∈ wLAW := iB_2 _ (List.mem_of_getElem? (i := 57) rfl)
theorem B_178 : (Cond.static yL_ofMachine : Cond) ∈ wLAW := iB_2 _ (List.mem_of_getElem? (i := 58) rfl)
theorem B_179 : (Cond.methodLink RL 174 yX8_ofMachine : Cond) ∈ wLAW := iB_2 _ (List.mem_of_getElem? (i := 59) rfl)
theorem B_180 : (Cond.instanceMethod yX8_ofMachine : Cond) ∈ wLAW := iB_3 _ (List.mem_of_getElem? (i := 0) rfl)
theorem B_181 : (Cond.selects RX8 yX8_ofMachine yX8_ofMachine : Cond) ∈ wLAW := iB_3 _ (List.mem_of_getElem? (i := 1) rfl)
theorem B_182 : (Cond.methodLink RL 175 yL_has : Cond) ∈ wLAW := iB_3 _ (List.mem_of_getElem? (i := 2) rfl)
theorem B_183 : (Cond.static yL_has : Cond) ∈ wLAW := iB_3 _ (List.mem_of_getElem? (i := 3) rfl)
theorem B_184 : (Cond.methodLink RL 76 yX5_has : Cond) ∈ wLAW := iB_3 _ (List.mem_of_getElem? (i := 4) rfl)
theorem B_185 : (Cond.methodLink RL 177 yX8_has : Cond) ∈ wLAW := iB_3 _ (List.mem_of_getElem? (i := 5) rfl)
theorem B_186 : (Cond.instanceMethod yX8_has : Cond) ∈ wLAW := iB_3 _ (List.mem_of_getElem? (i := 6) rfl)
theorem B_187 : (Cond.selects RX8 yX8_has yX8_has : Cond) ∈ wLAW := iB_3 _ (List.mem_of_getElem? (i := 7) rfl)
theorem B_188 : (Cond.methodLink RL 178 yL_ofCommit : Cond) ∈ wLAW := iB_3 _ (List.mem_of_getElem? (i := 8) rfl)
theorem B_189 : (Cond.static yL_ofCommit : Cond) ∈ wLAW := iB_3 _ (List.mem_of_getElem? (i := 9) rfl)
theorem B_190 : (Cond.methodLink RL 79 yX5_ofCommit : Cond) ∈ wLAW := iB_3 _ (List.mem_of_getElem? (i := 10) rfl)
theorem B_191 : (Cond.methodLink RL 180 yX8_ofCommit : Cond) ∈ wLAW := iB_3 _ (List.mem_of_getElem? (i := 11) rfl)
theorem B_192 : (Cond.instanceMethod yX8_ofCommit : Cond) ∈ wLAW := iB_3 _ (List.mem_of_getElem? (i := 12) rfl)
theorem B_193 : (Cond.selects RX8 yX8_ofCommit yX8_ofCommit : Cond) ∈ wLAW := iB_3 _ (List.mem_of_getElem? (i := 13) rfl)
theorem B_194 : (Cond.methodLink RL 181 yL_house : Cond) ∈ wLAW := iB_3 _ (List.mem_of_getElem? (i := 14) rfl)
theorem B_195 : (Cond.static yL_house : Cond) ∈ wLAW := iB_3 _ (List.mem_of_getElem? (i := 15) rfl)
theorem B_196 : (Cond.methodLink RL 183 yX8_house : Cond) ∈ wLAW := iB_3 _ (List.mem_of_getElem? (i := 16) rfl)
theorem B_197 : (Cond.instanceMethod yX8_house : Cond) ∈ wLAW := iB_3 _ (List.mem_of_getElem? (i := 17) rfl)
theorem B_198 : (Cond.selects RX8 yX8_house yX8_house : Cond) ∈ wLAW := iB_3 _ (List.mem_of_getElem? (i := 18) rfl)
theorem B_199 : (Cond.methodLink RL 184 yL_value : Cond) ∈ wLAW := iB_3 _ (List.mem_of_getElem? (i := 19) rfl)
theorem B_200 : (Cond.static yL_value : Cond) ∈ wLAW := iB_3 _ (List.mem_of_getElem? (i := 20) rfl)
theorem B_201 : (Cond.methodLink RL 186 yX8_value : Cond) ∈ wLAW := iB_3 _ (List.mem_of_getElem? (i := 21) rfl)
theorem B_202 : (Cond.instanceMethod yX8_value : Cond) ∈ wLAW := iB_3 _ (List.mem_of_getElem? (i := 22) rfl)
theorem B_203 : (Cond.selects RX8 yX8_value yX8_value : Cond) ∈ wLAW := iB_3 _ (List.mem_of_getElem? (i := 23) rfl)
theorem B_204 : (Cond.methodLink RL 187 yL_reason : Cond) ∈ wLAW := iB_3 _ (List.mem_of_getElem? (i := 24) rfl)
theorem B_205 : (Cond.static yL_reason : Cond) ∈ wLAW := iB_3 _ (List.mem_of_getElem? (i := 25) rfl)
theorem B_206 : (Cond.methodLink RL 189 yX8_reason : Cond) ∈ wLAW := iB_3 _ (List.mem_of_getElem? (i := 26) rfl)
theorem B_207 : (Cond.instanceMethod yX8_reason : Cond) ∈ wLAW := iB_3 _ (List.mem_of_getElem? (i := 27) rfl)
theorem B_208 : (Cond.selects RX8 yX8_reason yX8_reason : Cond) ∈ wLAW := iB_3 _ (List.mem_of_getElem? (i := 28) rfl)
theorem B_209 : (Cond.methodLink RL 190 yL_met : Cond) ∈ wLAW := iB_3 _ (List.mem_of_getElem? (i := 29) rfl)
theorem B_210 : (Cond.static yL_met : Cond) ∈ wLAW := iB_3 _ (List.mem_of_getElem? (i := 30) rfl)
theorem B_211 : (Cond.methodLink RL 192 yX8_met : Cond) ∈ wLAW := iB_3 _ (List.mem_of_getElem? (i := 31) rfl)
theorem B_212 : (Cond.instanceMethod yX8_met : Cond) ∈ wLAW := iB_3 _ (List.mem_of_getElem? (i := 32) rfl)
theorem B_213 : (Cond.selects RX8 yX8_met yX8_met : Cond) ∈ wLAW := iB_3 _ (List.mem_of_getElem? (i := 33) rfl)
theorem B_214 : (Cond.methodLink RL 193 yL_choices : Cond) ∈ wLAW := iB_3 _ (List.mem_of_getElem? (i := 34) rfl)
theorem B_215 : (Cond.static yL_choices : Cond) ∈ wLAW := iB_3 _ (List.mem_of_getElem? (i := 35) rfl)
theorem B_216 : (Cond.methodLink RL 195 yX8_choices : Cond) ∈ wLAW := iB_3 _ (List.mem_of_getElem? (i := 36) rfl)
theorem B_217 : (Cond.instanceMethod yX8_choices : Cond) ∈ wLAW := iB_3 _ (List.mem_of_getElem? (i := 37) rfl)
theorem B_218 : (Cond.selects RX8 yX8_choices yX8_choices : Cond) ∈ wLAW := iB_3 _ (List.mem_of_getElem? (i := 38) rfl)
theorem B_219 : (Cond.methodLink RL 196 yL_isNarrower : Cond) ∈ wLAW := iB_3 _ (List.mem_of_getElem? (i := 39) rfl)
theorem B_220 : (Cond.static yL_isNarrower : Cond) ∈ wLAW := iB_3 _ (List.mem_of_getElem? (i := 40) rfl)
theorem B_221 : (Cond.methodLink RL 102 yX5_isNarrower : Cond) ∈ wLAW := iB_3 _ (List.mem_of_getElem? (i := 41) rfl)
theorem B_222 : (Cond.instanceMethod yX5_isNarrower : Cond) ∈ wLAW := iB_3 _ (List.mem_of_getElem? (i := 42) rfl)
theorem B_223 : (Cond.selects RX5 yX5_isNarrower yX5_isNarrower : Cond) ∈ wLAW := iB_3 _ (List.mem_of_getElem? (i := 43) rfl)
theorem B_224 : (Cond.methodLink RL 198 yX8_isNarrower : Cond) ∈ wLAW := iB_3 _ (List.mem_of_getElem? (i := 44) rfl)
theorem B_225 : (Cond.instanceMethod yX8_isNarrower : Cond) ∈ wLAW := iB_3 _ (List.mem_of_getElem? (i := 45) rfl)
theorem B_226 : (Cond.selects RX8 yX8_isNarrower yX8_isNarrower : Cond) ∈ wLAW := iB_3 _ (List.mem_of_getElem? (i := 46) rfl)
theorem B_227 : (Cond.methodLink RL 199 yX5_isSound : Cond) ∈ wLAW := iB_3 _ (List.mem_of_getElem? (i := 47) rfl)
theorem B_228 : (Cond.methodLink RL 203 yX8_isSound : Cond) ∈ wLAW := iB_3 _ (List.mem_of_getElem? (i := 48) rfl)
theorem B_229 : (Cond.instanceMethod yX8_isSound : Cond) ∈ wLAW := iB_3 _ (List.mem_of_getElem? (i := 49) rfl)
theorem B_230 : (Cond.selects RX8 yX8_isSound yX8_isSound : Cond) ∈ wLAW := iB_3 _ (List.mem_of_getElem? (i := 50) rfl)
theorem B_231 : (Cond.methodLink RL 204 yX5_digest : Cond) ∈ wLAW := iB_3 _ (List.mem_of_getElem? (i := 51) rfl)
theorem B_232 : (Cond.instanceMethod yX5_digest : Cond) ∈ wLAW := iB_3 _ (List.mem_of_getElem? (i := 52) rfl)
theorem B_233 : (Cond.selects RX5 yX5_digest yX5_digest : Cond) ∈ wLAW := iB_3 _ (List.mem_of_getElem? (i := 53) rfl)
theorem B_234 : (Cond.methodLink RL 208 yX8_digest : Cond) ∈ wLAW := iB_3 _ (List.mem_of_getElem? (i := 54) rfl)
theorem B_235 : (Cond.instanceMethod yX8_digest : Cond) ∈ wLAW := iB_3 _ (List.mem_of_getElem? (i := 55) rfl)
theorem B_236 : (Cond.selects RX8 yX8_digest yX8_digest : Cond) ∈ wLAW := iB_3 _ (List.mem_of_getElem? (i := 56) rfl)
theorem gLAW : ∀ w ∈ wLAW, goodWord w = true := fun w h => (List.mem_append.mp h).elim (fun h => List.all_eq_true.mp (by decide +kernel) w h) (gALL w)
theorem gB {a : Cond} {ws : List Cond} (h : ∀ w ∈ ws, w ∈ wLAW) : GoodIn (a :: wLAW) ws := fun w hw => ⟨List.mem_cons_of_mem _ (h w hw), good_of_word (gLAW w (h w hw))⟩
theorem gB_V {a c : Cond} {own C : String} {idx : Nat} {y : MethodName} (h1 : Cond.methodLink own idx y ∈ wLAW) (h2 : Cond.instanceMethod y ∈ wLAW) (h3 : Cond.selects C y y ∈ wLAW) (h4 : Cond.initialized C ∈ wLAW) (hc : c ∈ wLAW) : GoodIn (a :: wLAW) (wsV own idx C y (c :: wALL)) := gB (by
  intro w hw
  rcases List.mem_append.mp hw with h | h
  · rcases List.mem_cons.mp h with rfl | h
    · exact h1
    · rcases List.mem_cons.mp h with rfl | h
      · exact h2
      · rcases List.mem_cons.mp h with rfl | h
        · exact h3
        · rcases List.mem_cons.mp h with rfl | h
          · exact h4
          · simp at h
  · exact (List.mem_cons.mp h).elim (fun e => e ▸ hc) (iB_A w))

