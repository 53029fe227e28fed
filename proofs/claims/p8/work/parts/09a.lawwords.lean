def yL_field : MethodName := ⟨RL, "field", "(LMeetjoin;ILMeetjoinLaw$Out;)I"⟩
def yL_oneOf : MethodName := ⟨RL, "oneOf", "(LMeetjoin;IIILMeetjoinLaw$Out;)I"⟩
def yL_bound : MethodName := ⟨RL, "bound", "(LMeetjoin;IIIZLMeetjoinLaw$Out;)I"⟩
def yL_more : MethodName := ⟨RL, "more", "(LMeetjoin;IIIILMeetjoinLaw$Out;)I"⟩
def yL_unlike : MethodName := ⟨RL, "unlike", "(LMeetjoin;IIILMeetjoinLaw$Out;)I"⟩
def yL_preset : MethodName := ⟨RL, "preset", "(LMeetjoin;IIIILMeetjoinLaw$Out;)I"⟩
def yL_approve : MethodName := ⟨RL, "approve", "(LMeetjoin;IZLMeetjoinLaw$Out;)I"⟩
def yL_withdraw : MethodName := ⟨RL, "withdraw", "(LMeetjoin;IZLMeetjoinLaw$Out;)I"⟩
def yL_weight : MethodName := ⟨RL, "weight", "(LMeetjoin;IILMeetjoinLaw$Out;)I"⟩
def yL_commit : MethodName := ⟨RL, "commit", "(LMeetjoin;LMeetjoinLaw$Out;)I"⟩
def yL_wave : MethodName := ⟨RL, "wave", "(LMeetjoin;IILMeetjoinLaw$Out;)I"⟩
def yL_patch : MethodName := ⟨RL, "patch", "(LMeetjoin;IIILMeetjoinLaw$Out;)I"⟩
def yL_absorb : MethodName := ⟨RL, "absorb", "(LMeetjoin;IILMeetjoinLaw$Out;)I"⟩
def yL_ofField : MethodName := ⟨RL, "ofField", "(LMeetjoin;IILMeetjoinLaw$Out;)I"⟩
def yL_ofLine : MethodName := ⟨RL, "ofLine", "(LMeetjoin;IILMeetjoinLaw$Out;)I"⟩
def yL_ofMachine : MethodName := ⟨RL, "ofMachine", "(LMeetjoin;IILMeetjoinLaw$Out;)I"⟩
def yL_has : MethodName := ⟨RL, "has", "(LMeetjoin;IILMeetjoinLaw$Out;)I"⟩
def yL_ofCommit : MethodName := ⟨RL, "ofCommit", "(LMeetjoin;IILMeetjoinLaw$Out;)I"⟩
def yL_house : MethodName := ⟨RL, "house", "(LMeetjoin;ILMeetjoinLaw$Out;)I"⟩
def yL_value : MethodName := ⟨RL, "value", "(LMeetjoin;ILMeetjoinLaw$Out;)I"⟩
def yL_reason : MethodName := ⟨RL, "reason", "(LMeetjoin;ILMeetjoinLaw$Out;)I"⟩
def yL_met : MethodName := ⟨RL, "met", "(LMeetjoin;IILMeetjoinLaw$Out;)I"⟩
def yL_choices : MethodName := ⟨RL, "choices", "(LMeetjoin;IILMeetjoinLaw$Out;)I"⟩
def yL_isNarrower : MethodName := ⟨RL, "isNarrower", "(LMeetjoin;IILMeetjoinLaw$Out;)I"⟩
abbrev cL_law : ByteArray := code
def yL_law : MethodName := ⟨RL, "law", "([I)Z"⟩
theorem k_dL_field_0 : dk cL_field [(0, .aload_n 2, 1), (1, .aload_n 0, 1), (2, .iload_n 1, 1), (3, .invokevirtual 7, 3), (6, .i2l, 1), (7, .putfield 13, 3), (10, .goto 9, 3), (13, .astore_n 3, 1), (14, .iconst 1, 1), (15, .ireturn, 1), (16, .astore_n 3, 1), (17, .iconst 2, 1), (18, .ireturn, 1), (19, .iconst 0, 1), (20, .ireturn, 1)] = true := by decide +kernel
theorem dL_field_0 : decode cL_field 0 = .ok (.aload_n 2, 1) := dk_at k_dL_field_0 (i := 0) rfl
theorem dL_field_1 : decode cL_field 1 = .ok (.aload_n 0, 1) := dk_at k_dL_field_0 (i := 1) rfl
theorem dL_field_2 : decode cL_field 2 = .ok (.iload_n 1, 1) := dk_at k_dL_field_0 (i := 2) rfl
theorem dL_field_3 : decode cL_field 3 = .ok (.invokevirtual 7, 3) := dk_at k_dL_field_0 (i := 3) rfl
theorem dL_field_6 : decode cL_field 6 = .ok (.i2l, 1) := dk_at k_dL_field_0 (i := 4) rfl
theorem dL_field_7 : decode cL_field 7 = .ok (.putfield 13, 3) := dk_at k_dL_field_0 (i := 5) rfl
theorem dL_field_10 : decode cL_field 10 = .ok (.goto 9, 3) := dk_at k_dL_field_0 (i := 6) rfl
theorem dL_field_13 : decode cL_field 13 = .ok (.astore_n 3, 1) := dk_at k_dL_field_0 (i := 7) rfl
theorem dL_field_14 : decode cL_field 14 = .ok (.iconst 1, 1) := dk_at k_dL_field_0 (i := 8) rfl
theorem dL_field_15 : decode cL_field 15 = .ok (.ireturn, 1) := dk_at k_dL_field_0 (i := 9) rfl
theorem dL_field_16 : decode cL_field 16 = .ok (.astore_n 3, 1) := dk_at k_dL_field_0 (i := 10) rfl
theorem dL_field_17 : decode cL_field 17 = .ok (.iconst 2, 1) := dk_at k_dL_field_0 (i := 11) rfl
theorem dL_field_18 : decode cL_field 18 = .ok (.ireturn, 1) := dk_at k_dL_field_0 (i := 12) rfl
theorem dL_field_19 : decode cL_field 19 = .ok (.iconst 0, 1) := dk_at k_dL_field_0 (i := 13) rfl
theorem dL_field_20 : decode cL_field 20 = .ok (.ireturn, 1) := dk_at k_dL_field_0 (i := 14) rfl
theorem k_dL_oneOf_0 : dk cL_oneOf [(0, .aload 4, 2), (2, .aload_n 0, 1), (3, .iload_n 1, 1), (4, .iload_n 2, 1), (5, .iload_n 3, 1), (6, .invokevirtual 23, 3), (9, .i2l, 1), (10, .putfield 13, 3), (13, .goto 15, 3), (16, .astore 5, 2), (18, .iconst 1, 1), (19, .ireturn, 1), (20, .astore 5, 2), (22, .iconst 2, 1), (23, .ireturn, 1), (24, .astore 5, 2), (26, .iconst 3, 1), (27, .ireturn, 1), (28, .iconst 0, 1), (29, .ireturn, 1)] = true := by decide +kernel
theorem dL_oneOf_0 : decode cL_oneOf 0 = .ok (.aload 4, 2) := dk_at k_dL_oneOf_0 (i := 0) rfl
theorem dL_oneOf_2 : decode cL_oneOf 2 = .ok (.aload_n 0, 1) := dk_at k_dL_oneOf_0 (i := 1) rfl
theorem dL_oneOf_3 : decode cL_oneOf 3 = .ok (.iload_n 1, 1) := dk_at k_dL_oneOf_0 (i := 2) rfl
theorem dL_oneOf_4 : decode cL_oneOf 4 = .ok (.iload_n 2, 1) := dk_at k_dL_oneOf_0 (i := 3) rfl
theorem dL_oneOf_5 : decode cL_oneOf 5 = .ok (.iload_n 3, 1) := dk_at k_dL_oneOf_0 (i := 4) rfl
theorem dL_oneOf_6 : decode cL_oneOf 6 = .ok (.invokevirtual 23, 3) := dk_at k_dL_oneOf_0 (i := 5) rfl
theorem dL_oneOf_9 : decode cL_oneOf 9 = .ok (.i2l, 1) := dk_at k_dL_oneOf_0 (i := 6) rfl
theorem dL_oneOf_10 : decode cL_oneOf 10 = .ok (.putfield 13, 3) := dk_at k_dL_oneOf_0 (i := 7) rfl
theorem dL_oneOf_13 : decode cL_oneOf 13 = .ok (.goto 15, 3) := dk_at k_dL_oneOf_0 (i := 8) rfl
theorem dL_oneOf_16 : decode cL_oneOf 16 = .ok (.astore 5, 2) := dk_at k_dL_oneOf_0 (i := 9) rfl
theorem dL_oneOf_18 : decode cL_oneOf 18 = .ok (.iconst 1, 1) := dk_at k_dL_oneOf_0 (i := 10) rfl
theorem dL_oneOf_19 : decode cL_oneOf 19 = .ok (.ireturn, 1) := dk_at k_dL_oneOf_0 (i := 11) rfl
theorem dL_oneOf_20 : decode cL_oneOf 20 = .ok (.astore 5, 2) := dk_at k_dL_oneOf_0 (i := 12) rfl
theorem dL_oneOf_22 : decode cL_oneOf 22 = .ok (.iconst 2, 1) := dk_at k_dL_oneOf_0 (i := 13) rfl
theorem dL_oneOf_23 : decode cL_oneOf 23 = .ok (.ireturn, 1) := dk_at k_dL_oneOf_0 (i := 14) rfl
theorem dL_oneOf_24 : decode cL_oneOf 24 = .ok (.astore 5, 2) := dk_at k_dL_oneOf_0 (i := 15) rfl
theorem dL_oneOf_26 : decode cL_oneOf 26 = .ok (.iconst 3, 1) := dk_at k_dL_oneOf_0 (i := 16) rfl
theorem dL_oneOf_27 : decode cL_oneOf 27 = .ok (.ireturn, 1) := dk_at k_dL_oneOf_0 (i := 17) rfl
theorem dL_oneOf_28 : decode cL_oneOf 28 = .ok (.iconst 0, 1) := dk_at k_dL_oneOf_0 (i := 18) rfl
theorem dL_oneOf_29 : decode cL_oneOf 29 = .ok (.ireturn, 1) := dk_at k_dL_oneOf_0 (i := 19) rfl
theorem k_dL_bound_0 : dk cL_bound [(0, .aload 5, 2), (2, .aload_n 0, 1), (3, .iload_n 1, 1), (4, .iload_n 2, 1), (5, .iload_n 3, 1), (6, .iload 4, 2), (8, .invokevirtual 29, 3), (11, .i2l, 1), (12, .putfield 13, 3), (15, .goto 15, 3), (18, .astore 6, 2), (20, .iconst 1, 1), (21, .ireturn, 1), (22, .astore 6, 2), (24, .iconst 2, 1), (25, .ireturn, 1), (26, .astore 6, 2), (28, .iconst 3, 1), (29, .ireturn, 1), (30, .iconst 0, 1), (31, .ireturn, 1)] = true := by decide +kernel
theorem dL_bound_0 : decode cL_bound 0 = .ok (.aload 5, 2) := dk_at k_dL_bound_0 (i := 0) rfl
theorem dL_bound_2 : decode cL_bound 2 = .ok (.aload_n 0, 1) := dk_at k_dL_bound_0 (i := 1) rfl
theorem dL_bound_3 : decode cL_bound 3 = .ok (.iload_n 1, 1) := dk_at k_dL_bound_0 (i := 2) rfl
theorem dL_bound_4 : decode cL_bound 4 = .ok (.iload_n 2, 1) := dk_at k_dL_bound_0 (i := 3) rfl
theorem dL_bound_5 : decode cL_bound 5 = .ok (.iload_n 3, 1) := dk_at k_dL_bound_0 (i := 4) rfl
theorem dL_bound_6 : decode cL_bound 6 = .ok (.iload 4, 2) := dk_at k_dL_bound_0 (i := 5) rfl
theorem dL_bound_8 : decode cL_bound 8 = .ok (.invokevirtual 29, 3) := dk_at k_dL_bound_0 (i := 6) rfl
theorem dL_bound_11 : decode cL_bound 11 = .ok (.i2l, 1) := dk_at k_dL_bound_0 (i := 7) rfl
theorem dL_bound_12 : decode cL_bound 12 = .ok (.putfield 13, 3) := dk_at k_dL_bound_0 (i := 8) rfl
theorem dL_bound_15 : decode cL_bound 15 = .ok (.goto 15, 3) := dk_at k_dL_bound_0 (i := 9) rfl
theorem dL_bound_18 : decode cL_bound 18 = .ok (.astore 6, 2) := dk_at k_dL_bound_0 (i := 10) rfl
theorem dL_bound_20 : decode cL_bound 20 = .ok (.iconst 1, 1) := dk_at k_dL_bound_0 (i := 11) rfl
theorem dL_bound_21 : decode cL_bound 21 = .ok (.ireturn, 1) := dk_at k_dL_bound_0 (i := 12) rfl
theorem dL_bound_22 : decode cL_bound 22 = .ok (.astore 6, 2) := dk_at k_dL_bound_0 (i := 13) rfl
theorem dL_bound_24 : decode cL_bound 24 = .ok (.iconst 2, 1) := dk_at k_dL_bound_0 (i := 14) rfl
theorem dL_bound_25 : decode cL_bound 25 = .ok (.ireturn, 1) := dk_at k_dL_bound_0 (i := 15) rfl
theorem dL_bound_26 : decode cL_bound 26 = .ok (.astore 6, 2) := dk_at k_dL_bound_0 (i := 16) rfl
theorem dL_bound_28 : decode cL_bound 28 = .ok (.iconst 3, 1) := dk_at k_dL_bound_0 (i := 17) rfl
theorem dL_bound_29 : decode cL_bound 29 = .ok (.ireturn, 1) := dk_at k_dL_bound_0 (i := 18) rfl
theorem dL_bound_30 : decode cL_bound 30 = .ok (.iconst 0, 1) := dk_at k_dL_bound_0 (i := 19) rfl
theorem dL_bound_31 : decode cL_bound 31 = .ok (.ireturn, 1) := dk_at k_dL_bound_0 (i := 20) rfl
theorem k_dL_more_0 : dk cL_more [(0, .aload 5, 2), (2, .aload_n 0, 1), (3, .iload_n 1, 1), (4, .iload_n 2, 1), (5, .iload_n 3, 1), (6, .iload 4, 2), (8, .invokevirtual 33, 3), (11, .i2l, 1), (12, .putfield 13, 3), (15, .goto 15, 3), (18, .astore 6, 2), (20, .iconst 1, 1), (21, .ireturn, 1), (22, .astore 6, 2), (24, .iconst 2, 1), (25, .ireturn, 1), (26, .astore 6, 2), (28, .iconst 3, 1), (29, .ireturn, 1), (30, .iconst 0, 1), (31, .ireturn, 1)] = true := by decide +kernel
theorem dL_more_0 : decode cL_more 0 = .ok (.aload 5, 2) := dk_at k_dL_more_0 (i := 0) rfl
theorem dL_more_2 : decode cL_more 2 = .ok (.aload_n 0, 1) := dk_at k_dL_more_0 (i := 1) rfl
theorem dL_more_3 : decode cL_more 3 = .ok (.iload_n 1, 1) := dk_at k_dL_more_0 (i := 2) rfl
theorem dL_more_4 : decode cL_more 4 = .ok (.iload_n 2, 1) := dk_at k_dL_more_0 (i := 3) rfl
theorem dL_more_5 : decode cL_more 5 = .ok (.iload_n 3, 1) := dk_at k_dL_more_0 (i := 4) rfl
theorem dL_more_6 : decode cL_more 6 = .ok (.iload 4, 2) := dk_at k_dL_more_0 (i := 5) rfl
theorem dL_more_8 : decode cL_more 8 = .ok (.invokevirtual 33, 3) := dk_at k_dL_more_0 (i := 6) rfl
theorem dL_more_11 : decode cL_more 11 = .ok (.i2l, 1) := dk_at k_dL_more_0 (i := 7) rfl
theorem dL_more_12 : decode cL_more 12 = .ok (.putfield 13, 3) := dk_at k_dL_more_0 (i := 8) rfl
theorem dL_more_15 : decode cL_more 15 = .ok (.goto 15, 3) := dk_at k_dL_more_0 (i := 9) rfl
theorem dL_more_18 : decode cL_more 18 = .ok (.astore 6, 2) := dk_at k_dL_more_0 (i := 10) rfl
theorem dL_more_20 : decode cL_more 20 = .ok (.iconst 1, 1) := dk_at k_dL_more_0 (i := 11) rfl
theorem dL_more_21 : decode cL_more 21 = .ok (.ireturn, 1) := dk_at k_dL_more_0 (i := 12) rfl
theorem dL_more_22 : decode cL_more 22 = .ok (.astore 6, 2) := dk_at k_dL_more_0 (i := 13) rfl
theorem dL_more_24 : decode cL_more 24 = .ok (.iconst 2, 1) := dk_at k_dL_more_0 (i := 14) rfl
theorem dL_more_25 : decode cL_more 25 = .ok (.ireturn, 1) := dk_at k_dL_more_0 (i := 15) rfl
theorem dL_more_26 : decode cL_more 26 = .ok (.astore 6, 2) := dk_at k_dL_more_0 (i := 16) rfl
theorem dL_more_28 : decode cL_more 28 = .ok (.iconst 3, 1) := dk_at k_dL_more_0 (i := 17) rfl
theorem dL_more_29 : decode cL_more 29 = .ok (.ireturn, 1) := dk_at k_dL_more_0 (i := 18) rfl
theorem dL_more_30 : decode cL_more 30 = .ok (.iconst 0, 1) := dk_at k_dL_more_0 (i := 19) rfl
theorem dL_more_31 : decode cL_more 31 = .ok (.ireturn, 1) := dk_at k_dL_more_0 (i := 20) rfl
theorem k_dL_unlike_0 : dk cL_unlike [(0, .aload 4, 2), (2, .aload_n 0, 1), (3, .iload_n 1, 1), (4, .iload_n 2, 1), (5, .iload_n 3, 1), (6, .invokevirtual 37, 3), (9, .i2l, 1), (10, .putfield 13, 3), (13, .goto 15, 3), (16, .astore 5, 2), (18, .iconst 1, 1), (19, .ireturn, 1), (20, .astore 5, 2), (22, .iconst 2, 1), (23, .ireturn, 1), (24, .astore 5, 2), (26, .iconst 3, 1), (27, .ireturn, 1), (28, .iconst 0, 1), (29, .ireturn, 1)] = true := by decide +kernel
theorem dL_unlike_0 : decode cL_unlike 0 = .ok (.aload 4, 2) := dk_at k_dL_unlike_0 (i := 0) rfl
theorem dL_unlike_2 : decode cL_unlike 2 = .ok (.aload_n 0, 1) := dk_at k_dL_unlike_0 (i := 1) rfl
theorem dL_unlike_3 : decode cL_unlike 3 = .ok (.iload_n 1, 1) := dk_at k_dL_unlike_0 (i := 2) rfl
theorem dL_unlike_4 : decode cL_unlike 4 = .ok (.iload_n 2, 1) := dk_at k_dL_unlike_0 (i := 3) rfl
theorem dL_unlike_5 : decode cL_unlike 5 = .ok (.iload_n 3, 1) := dk_at k_dL_unlike_0 (i := 4) rfl
theorem dL_unlike_6 : decode cL_unlike 6 = .ok (.invokevirtual 37, 3) := dk_at k_dL_unlike_0 (i := 5) rfl
theorem dL_unlike_9 : decode cL_unlike 9 = .ok (.i2l, 1) := dk_at k_dL_unlike_0 (i := 6) rfl
theorem dL_unlike_10 : decode cL_unlike 10 = .ok (.putfield 13, 3) := dk_at k_dL_unlike_0 (i := 7) rfl
theorem dL_unlike_13 : decode cL_unlike 13 = .ok (.goto 15, 3) := dk_at k_dL_unlike_0 (i := 8) rfl
theorem dL_unlike_16 : decode cL_unlike 16 = .ok (.astore 5, 2) := dk_at k_dL_unlike_0 (i := 9) rfl
theorem dL_unlike_18 : decode cL_unlike 18 = .ok (.iconst 1, 1) := dk_at k_dL_unlike_0 (i := 10) rfl
theorem dL_unlike_19 : decode cL_unlike 19 = .ok (.ireturn, 1) := dk_at k_dL_unlike_0 (i := 11) rfl
theorem dL_unlike_20 : decode cL_unlike 20 = .ok (.astore 5, 2) := dk_at k_dL_unlike_0 (i := 12) rfl
theorem dL_unlike_22 : decode cL_unlike 22 = .ok (.iconst 2, 1) := dk_at k_dL_unlike_0 (i := 13) rfl
theorem dL_unlike_23 : decode cL_unlike 23 = .ok (.ireturn, 1) := dk_at k_dL_unlike_0 (i := 14) rfl
theorem dL_unlike_24 : decode cL_unlike 24 = .ok (.astore 5, 2) := dk_at k_dL_unlike_0 (i := 15) rfl
theorem dL_unlike_26 : decode cL_unlike 26 = .ok (.iconst 3, 1) := dk_at k_dL_unlike_0 (i := 16) rfl
theorem dL_unlike_27 : decode cL_unlike 27 = .ok (.ireturn, 1) := dk_at k_dL_unlike_0 (i := 17) rfl
theorem dL_unlike_28 : decode cL_unlike 28 = .ok (.iconst 0, 1) := dk_at k_dL_unlike_0 (i := 18) rfl
theorem dL_unlike_29 : decode cL_unlike 29 = .ok (.ireturn, 1) := dk_at k_dL_unlike_0 (i := 19) rfl
theorem k_dL_preset_0 : dk cL_preset [(0, .aload 5, 2), (2, .aload_n 0, 1), (3, .iload_n 1, 1), (4, .iload_n 2, 1), (5, .iload_n 3, 1), (6, .iload 4, 2), (8, .invokevirtual 40, 3), (11, .i2l, 1), (12, .putfield 13, 3), (15, .goto 15, 3), (18, .astore 6, 2), (20, .iconst 1, 1), (21, .ireturn, 1), (22, .astore 6, 2), (24, .iconst 2, 1), (25, .ireturn, 1), (26, .astore 6, 2), (28, .iconst 3, 1), (29, .ireturn, 1), (30, .iconst 0, 1), (31, .ireturn, 1)] = true := by decide +kernel
theorem dL_preset_0 : decode cL_preset 0 = .ok (.aload 5, 2) := dk_at k_dL_preset_0 (i := 0) rfl
theorem dL_preset_2 : decode cL_preset 2 = .ok (.aload_n 0, 1) := dk_at k_dL_preset_0 (i := 1) rfl
theorem dL_preset_3 : decode cL_preset 3 = .ok (.iload_n 1, 1) := dk_at k_dL_preset_0 (i := 2) rfl
theorem dL_preset_4 : decode cL_preset 4 = .ok (.iload_n 2, 1) := dk_at k_dL_preset_0 (i := 3) rfl
theorem dL_preset_5 : decode cL_preset 5 = .ok (.iload_n 3, 1) := dk_at k_dL_preset_0 (i := 4) rfl
theorem dL_preset_6 : decode cL_preset 6 = .ok (.iload 4, 2) := dk_at k_dL_preset_0 (i := 5) rfl
theorem dL_preset_8 : decode cL_preset 8 = .ok (.invokevirtual 40, 3) := dk_at k_dL_preset_0 (i := 6) rfl
theorem dL_preset_11 : decode cL_preset 11 = .ok (.i2l, 1) := dk_at k_dL_preset_0 (i := 7) rfl
theorem dL_preset_12 : decode cL_preset 12 = .ok (.putfield 13, 3) := dk_at k_dL_preset_0 (i := 8) rfl
theorem dL_preset_15 : decode cL_preset 15 = .ok (.goto 15, 3) := dk_at k_dL_preset_0 (i := 9) rfl
theorem dL_preset_18 : decode cL_preset 18 = .ok (.astore 6, 2) := dk_at k_dL_preset_0 (i := 10) rfl
theorem dL_preset_20 : decode cL_preset 20 = .ok (.iconst 1, 1) := dk_at k_dL_preset_0 (i := 11) rfl
theorem dL_preset_21 : decode cL_preset 21 = .ok (.ireturn, 1) := dk_at k_dL_preset_0 (i := 12) rfl
theorem dL_preset_22 : decode cL_preset 22 = .ok (.astore 6, 2) := dk_at k_dL_preset_0 (i := 13) rfl
theorem dL_preset_24 : decode cL_preset 24 = .ok (.iconst 2, 1) := dk_at k_dL_preset_0 (i := 14) rfl
theorem dL_preset_25 : decode cL_preset 25 = .ok (.ireturn, 1) := dk_at k_dL_preset_0 (i := 15) rfl
theorem dL_preset_26 : decode cL_preset 26 = .ok (.astore 6, 2) := dk_at k_dL_preset_0 (i := 16) rfl
theorem dL_preset_28 : decode cL_preset 28 = .ok (.iconst 3, 1) := dk_at k_dL_preset_0 (i := 17) rfl
theorem dL_preset_29 : decode cL_preset 29 = .ok (.ireturn, 1) := dk_at k_dL_preset_0 (i := 18) rfl
theorem dL_preset_30 : decode cL_preset 30 = .ok (.iconst 0, 1) := dk_at k_dL_preset_0 (i := 19) rfl
theorem dL_preset_31 : decode cL_preset 31 = .ok (.ireturn, 1) := dk_at k_dL_preset_0 (i := 20) rfl
theorem k_dL_approve_0 : dk cL_approve [(0, .aload_n 3, 1), (1, .aload_n 0, 1), (2, .iload_n 1, 1), (3, .iload_n 2, 1), (4, .invokevirtual 43, 3), (7, .ifCond .eq 7, 3), (10, .lconst 1, 1), (11, .goto 4, 3), (14, .lconst 0, 1), (15, .putfield 13, 3), (18, .goto 7, 3), (21, .astore 4, 2), (23, .iconst 1, 1), (24, .ireturn, 1), (25, .iconst 0, 1), (26, .ireturn, 1)] = true := by decide +kernel
theorem dL_approve_0 : decode cL_approve 0 = .ok (.aload_n 3, 1) := dk_at k_dL_approve_0 (i := 0) rfl
theorem dL_approve_1 : decode cL_approve 1 = .ok (.aload_n 0, 1) := dk_at k_dL_approve_0 (i := 1) rfl
theorem dL_approve_2 : decode cL_approve 2 = .ok (.iload_n 1, 1) := dk_at k_dL_approve_0 (i := 2) rfl
theorem dL_approve_3 : decode cL_approve 3 = .ok (.iload_n 2, 1) := dk_at k_dL_approve_0 (i := 3) rfl
theorem dL_approve_4 : decode cL_approve 4 = .ok (.invokevirtual 43, 3) := dk_at k_dL_approve_0 (i := 4) rfl
theorem dL_approve_7 : decode cL_approve 7 = .ok (.ifCond .eq 7, 3) := dk_at k_dL_approve_0 (i := 5) rfl
theorem dL_approve_10 : decode cL_approve 10 = .ok (.lconst 1, 1) := dk_at k_dL_approve_0 (i := 6) rfl
theorem dL_approve_11 : decode cL_approve 11 = .ok (.goto 4, 3) := dk_at k_dL_approve_0 (i := 7) rfl
theorem dL_approve_14 : decode cL_approve 14 = .ok (.lconst 0, 1) := dk_at k_dL_approve_0 (i := 8) rfl
theorem dL_approve_15 : decode cL_approve 15 = .ok (.putfield 13, 3) := dk_at k_dL_approve_0 (i := 9) rfl
theorem dL_approve_18 : decode cL_approve 18 = .ok (.goto 7, 3) := dk_at k_dL_approve_0 (i := 10) rfl
theorem dL_approve_21 : decode cL_approve 21 = .ok (.astore 4, 2) := dk_at k_dL_approve_0 (i := 11) rfl
theorem dL_approve_23 : decode cL_approve 23 = .ok (.iconst 1, 1) := dk_at k_dL_approve_0 (i := 12) rfl
theorem dL_approve_24 : decode cL_approve 24 = .ok (.ireturn, 1) := dk_at k_dL_approve_0 (i := 13) rfl
theorem dL_approve_25 : decode cL_approve 25 = .ok (.iconst 0, 1) := dk_at k_dL_approve_0 (i := 14) rfl
theorem dL_approve_26 : decode cL_approve 26 = .ok (.ireturn, 1) := dk_at k_dL_approve_0 (i := 15) rfl
theorem k_dL_withdraw_0 : dk cL_withdraw [(0, .aload_n 3, 1), (1, .aload_n 0, 1), (2, .iload_n 1, 1), (3, .iload_n 2, 1), (4, .invokevirtual 47, 3), (7, .ifCond .eq 7, 3), (10, .lconst 1, 1), (11, .goto 4, 3), (14, .lconst 0, 1), (15, .putfield 13, 3), (18, .goto 7, 3), (21, .astore 4, 2), (23, .iconst 1, 1), (24, .ireturn, 1), (25, .iconst 0, 1), (26, .ireturn, 1)] = true := by decide +kernel
theorem dL_withdraw_0 : decode cL_withdraw 0 = .ok (.aload_n 3, 1) := dk_at k_dL_withdraw_0 (i := 0) rfl
theorem dL_withdraw_1 : decode cL_withdraw 1 = .ok (.aload_n 0, 1) := dk_at k_dL_withdraw_0 (i := 1) rfl
theorem dL_withdraw_2 : decode cL_withdraw 2 = .ok (.iload_n 1, 1) := dk_at k_dL_withdraw_0 (i := 2) rfl
theorem dL_withdraw_3 : decode cL_withdraw 3 = .ok (.iload_n 2, 1) := dk_at k_dL_withdraw_0 (i := 3) rfl
theorem dL_withdraw_4 : decode cL_withdraw 4 = .ok (.invokevirtual 47, 3) := dk_at k_dL_withdraw_0 (i := 4) rfl
theorem dL_withdraw_7 : decode cL_withdraw 7 = .ok (.ifCond .eq 7, 3) := dk_at k_dL_withdraw_0 (i := 5) rfl
theorem dL_withdraw_10 : decode cL_withdraw 10 = .ok (.lconst 1, 1) := dk_at k_dL_withdraw_0 (i := 6) rfl
theorem dL_withdraw_11 : decode cL_withdraw 11 = .ok (.goto 4, 3) := dk_at k_dL_withdraw_0 (i := 7) rfl
theorem dL_withdraw_14 : decode cL_withdraw 14 = .ok (.lconst 0, 1) := dk_at k_dL_withdraw_0 (i := 8) rfl
theorem dL_withdraw_15 : decode cL_withdraw 15 = .ok (.putfield 13, 3) := dk_at k_dL_withdraw_0 (i := 9) rfl
theorem dL_withdraw_18 : decode cL_withdraw 18 = .ok (.goto 7, 3) := dk_at k_dL_withdraw_0 (i := 10) rfl
theorem dL_withdraw_21 : decode cL_withdraw 21 = .ok (.astore 4, 2) := dk_at k_dL_withdraw_0 (i := 11) rfl
theorem dL_withdraw_23 : decode cL_withdraw 23 = .ok (.iconst 1, 1) := dk_at k_dL_withdraw_0 (i := 12) rfl
theorem dL_withdraw_24 : decode cL_withdraw 24 = .ok (.ireturn, 1) := dk_at k_dL_withdraw_0 (i := 13) rfl
theorem dL_withdraw_25 : decode cL_withdraw 25 = .ok (.iconst 0, 1) := dk_at k_dL_withdraw_0 (i := 14) rfl
theorem dL_withdraw_26 : decode cL_withdraw 26 = .ok (.ireturn, 1) := dk_at k_dL_withdraw_0 (i := 15) rfl
theorem k_dL_weight_0 : dk cL_weight [(0, .aload_n 3, 1), (1, .aload_n 0, 1), (2, .iload_n 1, 1), (3, .iload_n 2, 1), (4, .invokevirtual 50, 3), (7, .i2l, 1), (8, .putfield 13, 3), (11, .goto 11, 3), (14, .astore 4, 2), (16, .iconst 1, 1), (17, .ireturn, 1), (18, .astore 4, 2), (20, .iconst 2, 1), (21, .ireturn, 1), (22, .iconst 0, 1), (23, .ireturn, 1)] = true := by decide +kernel
theorem dL_weight_0 : decode cL_weight 0 = .ok (.aload_n 3, 1) := dk_at k_dL_weight_0 (i := 0) rfl
theorem dL_weight_1 : decode cL_weight 1 = .ok (.aload_n 0, 1) := dk_at k_dL_weight_0 (i := 1) rfl
theorem dL_weight_2 : decode cL_weight 2 = .ok (.iload_n 1, 1) := dk_at k_dL_weight_0 (i := 2) rfl
theorem dL_weight_3 : decode cL_weight 3 = .ok (.iload_n 2, 1) := dk_at k_dL_weight_0 (i := 3) rfl
theorem dL_weight_4 : decode cL_weight 4 = .ok (.invokevirtual 50, 3) := dk_at k_dL_weight_0 (i := 4) rfl
theorem dL_weight_7 : decode cL_weight 7 = .ok (.i2l, 1) := dk_at k_dL_weight_0 (i := 5) rfl
theorem dL_weight_8 : decode cL_weight 8 = .ok (.putfield 13, 3) := dk_at k_dL_weight_0 (i := 6) rfl
theorem dL_weight_11 : decode cL_weight 11 = .ok (.goto 11, 3) := dk_at k_dL_weight_0 (i := 7) rfl
theorem dL_weight_14 : decode cL_weight 14 = .ok (.astore 4, 2) := dk_at k_dL_weight_0 (i := 8) rfl
theorem dL_weight_16 : decode cL_weight 16 = .ok (.iconst 1, 1) := dk_at k_dL_weight_0 (i := 9) rfl
theorem dL_weight_17 : decode cL_weight 17 = .ok (.ireturn, 1) := dk_at k_dL_weight_0 (i := 10) rfl
theorem dL_weight_18 : decode cL_weight 18 = .ok (.astore 4, 2) := dk_at k_dL_weight_0 (i := 11) rfl
theorem dL_weight_20 : decode cL_weight 20 = .ok (.iconst 2, 1) := dk_at k_dL_weight_0 (i := 12) rfl
theorem dL_weight_21 : decode cL_weight 21 = .ok (.ireturn, 1) := dk_at k_dL_weight_0 (i := 13) rfl
theorem dL_weight_22 : decode cL_weight 22 = .ok (.iconst 0, 1) := dk_at k_dL_weight_0 (i := 14) rfl
theorem dL_weight_23 : decode cL_weight 23 = .ok (.ireturn, 1) := dk_at k_dL_weight_0 (i := 15) rfl
theorem k_dL_commit_0 : dk cL_commit [(0, .aload_n 1, 1), (1, .aload_n 0, 1), (2, .invokevirtual 54, 3), (5, .i2l, 1), (6, .putfield 13, 3), (9, .goto 6, 3), (12, .astore_n 2, 1), (13, .iconst 1, 1), (14, .ireturn, 1), (15, .iconst 0, 1), (16, .ireturn, 1)] = true := by decide +kernel
theorem dL_commit_0 : decode cL_commit 0 = .ok (.aload_n 1, 1) := dk_at k_dL_commit_0 (i := 0) rfl
theorem dL_commit_1 : decode cL_commit 1 = .ok (.aload_n 0, 1) := dk_at k_dL_commit_0 (i := 1) rfl
theorem dL_commit_2 : decode cL_commit 2 = .ok (.invokevirtual 54, 3) := dk_at k_dL_commit_0 (i := 2) rfl
theorem dL_commit_5 : decode cL_commit 5 = .ok (.i2l, 1) := dk_at k_dL_commit_0 (i := 3) rfl
theorem dL_commit_6 : decode cL_commit 6 = .ok (.putfield 13, 3) := dk_at k_dL_commit_0 (i := 4) rfl
theorem dL_commit_9 : decode cL_commit 9 = .ok (.goto 6, 3) := dk_at k_dL_commit_0 (i := 5) rfl
theorem dL_commit_12 : decode cL_commit 12 = .ok (.astore_n 2, 1) := dk_at k_dL_commit_0 (i := 6) rfl
theorem dL_commit_13 : decode cL_commit 13 = .ok (.iconst 1, 1) := dk_at k_dL_commit_0 (i := 7) rfl
theorem dL_commit_14 : decode cL_commit 14 = .ok (.ireturn, 1) := dk_at k_dL_commit_0 (i := 8) rfl
theorem dL_commit_15 : decode cL_commit 15 = .ok (.iconst 0, 1) := dk_at k_dL_commit_0 (i := 9) rfl
theorem dL_commit_16 : decode cL_commit 16 = .ok (.ireturn, 1) := dk_at k_dL_commit_0 (i := 10) rfl
theorem k_dL_wave_0 : dk cL_wave [(0, .aload_n 3, 1), (1, .aload_n 0, 1), (2, .iload_n 1, 1), (3, .iload_n 2, 1), (4, .invokevirtual 58, 3), (7, .i2l, 1), (8, .putfield 13, 3), (11, .goto 11, 3), (14, .astore 4, 2), (16, .iconst 1, 1), (17, .ireturn, 1), (18, .astore 4, 2), (20, .iconst 2, 1), (21, .ireturn, 1), (22, .iconst 0, 1), (23, .ireturn, 1)] = true := by decide +kernel
theorem dL_wave_0 : decode cL_wave 0 = .ok (.aload_n 3, 1) := dk_at k_dL_wave_0 (i := 0) rfl
theorem dL_wave_1 : decode cL_wave 1 = .ok (.aload_n 0, 1) := dk_at k_dL_wave_0 (i := 1) rfl
theorem dL_wave_2 : decode cL_wave 2 = .ok (.iload_n 1, 1) := dk_at k_dL_wave_0 (i := 2) rfl
theorem dL_wave_3 : decode cL_wave 3 = .ok (.iload_n 2, 1) := dk_at k_dL_wave_0 (i := 3) rfl
theorem dL_wave_4 : decode cL_wave 4 = .ok (.invokevirtual 58, 3) := dk_at k_dL_wave_0 (i := 4) rfl
theorem dL_wave_7 : decode cL_wave 7 = .ok (.i2l, 1) := dk_at k_dL_wave_0 (i := 5) rfl
theorem dL_wave_8 : decode cL_wave 8 = .ok (.putfield 13, 3) := dk_at k_dL_wave_0 (i := 6) rfl
theorem dL_wave_11 : decode cL_wave 11 = .ok (.goto 11, 3) := dk_at k_dL_wave_0 (i := 7) rfl
theorem dL_wave_14 : decode cL_wave 14 = .ok (.astore 4, 2) := dk_at k_dL_wave_0 (i := 8) rfl
theorem dL_wave_16 : decode cL_wave 16 = .ok (.iconst 1, 1) := dk_at k_dL_wave_0 (i := 9) rfl
theorem dL_wave_17 : decode cL_wave 17 = .ok (.ireturn, 1) := dk_at k_dL_wave_0 (i := 10) rfl
theorem dL_wave_18 : decode cL_wave 18 = .ok (.astore 4, 2) := dk_at k_dL_wave_0 (i := 11) rfl
theorem dL_wave_20 : decode cL_wave 20 = .ok (.iconst 2, 1) := dk_at k_dL_wave_0 (i := 12) rfl
theorem dL_wave_21 : decode cL_wave 21 = .ok (.ireturn, 1) := dk_at k_dL_wave_0 (i := 13) rfl
theorem dL_wave_22 : decode cL_wave 22 = .ok (.iconst 0, 1) := dk_at k_dL_wave_0 (i := 14) rfl
theorem dL_wave_23 : decode cL_wave 23 = .ok (.ireturn, 1) := dk_at k_dL_wave_0 (i := 15) rfl
theorem k_dL_patch_0 : dk cL_patch [(0, .aload 4, 2), (2, .aload_n 0, 1), (3, .iload_n 1, 1), (4, .iload_n 2, 1), (5, .iload_n 3, 1), (6, .invokevirtual 61, 3), (9, .i2l, 1), (10, .putfield 13, 3), (13, .goto 11, 3), (16, .astore 5, 2), (18, .iconst 1, 1), (19, .ireturn, 1), (20, .astore 5, 2), (22, .iconst 2, 1), (23, .ireturn, 1), (24, .iconst 0, 1), (25, .ireturn, 1)] = true := by decide +kernel
theorem dL_patch_0 : decode cL_patch 0 = .ok (.aload 4, 2) := dk_at k_dL_patch_0 (i := 0) rfl
theorem dL_patch_2 : decode cL_patch 2 = .ok (.aload_n 0, 1) := dk_at k_dL_patch_0 (i := 1) rfl
theorem dL_patch_3 : decode cL_patch 3 = .ok (.iload_n 1, 1) := dk_at k_dL_patch_0 (i := 2) rfl
theorem dL_patch_4 : decode cL_patch 4 = .ok (.iload_n 2, 1) := dk_at k_dL_patch_0 (i := 3) rfl
theorem dL_patch_5 : decode cL_patch 5 = .ok (.iload_n 3, 1) := dk_at k_dL_patch_0 (i := 4) rfl
theorem dL_patch_6 : decode cL_patch 6 = .ok (.invokevirtual 61, 3) := dk_at k_dL_patch_0 (i := 5) rfl
theorem dL_patch_9 : decode cL_patch 9 = .ok (.i2l, 1) := dk_at k_dL_patch_0 (i := 6) rfl
theorem dL_patch_10 : decode cL_patch 10 = .ok (.putfield 13, 3) := dk_at k_dL_patch_0 (i := 7) rfl
theorem dL_patch_13 : decode cL_patch 13 = .ok (.goto 11, 3) := dk_at k_dL_patch_0 (i := 8) rfl
theorem dL_patch_16 : decode cL_patch 16 = .ok (.astore 5, 2) := dk_at k_dL_patch_0 (i := 9) rfl
theorem dL_patch_18 : decode cL_patch 18 = .ok (.iconst 1, 1) := dk_at k_dL_patch_0 (i := 10) rfl
theorem dL_patch_19 : decode cL_patch 19 = .ok (.ireturn, 1) := dk_at k_dL_patch_0 (i := 11) rfl
theorem dL_patch_20 : decode cL_patch 20 = .ok (.astore 5, 2) := dk_at k_dL_patch_0 (i := 12) rfl
theorem dL_patch_22 : decode cL_patch 22 = .ok (.iconst 2, 1) := dk_at k_dL_patch_0 (i := 13) rfl
theorem dL_patch_23 : decode cL_patch 23 = .ok (.ireturn, 1) := dk_at k_dL_patch_0 (i := 14) rfl
theorem dL_patch_24 : decode cL_patch 24 = .ok (.iconst 0, 1) := dk_at k_dL_patch_0 (i := 15) rfl
theorem dL_patch_25 : decode cL_patch 25 = .ok (.ireturn, 1) := dk_at k_dL_patch_0 (i := 16) rfl
theorem k_dL_absorb_0 : dk cL_absorb [(0, .aload_n 3, 1), (1, .aload_n 0, 1), (2, .iload_n 1, 1), (3, .iload_n 2, 1), (4, .invokevirtual 64, 3), (7, .i2l, 1), (8, .putfield 13, 3), (11, .goto 11, 3), (14, .astore 4, 2), (16, .iconst 1, 1), (17, .ireturn, 1), (18, .astore 4, 2), (20, .iconst 2, 1), (21, .ireturn, 1), (22, .iconst 0, 1), (23, .ireturn, 1)] = true := by decide +kernel
theorem dL_absorb_0 : decode cL_absorb 0 = .ok (.aload_n 3, 1) := dk_at k_dL_absorb_0 (i := 0) rfl
theorem dL_absorb_1 : decode cL_absorb 1 = .ok (.aload_n 0, 1) := dk_at k_dL_absorb_0 (i := 1) rfl
theorem dL_absorb_2 : decode cL_absorb 2 = .ok (.iload_n 1, 1) := dk_at k_dL_absorb_0 (i := 2) rfl
theorem dL_absorb_3 : decode cL_absorb 3 = .ok (.iload_n 2, 1) := dk_at k_dL_absorb_0 (i := 3) rfl
theorem dL_absorb_4 : decode cL_absorb 4 = .ok (.invokevirtual 64, 3) := dk_at k_dL_absorb_0 (i := 4) rfl
theorem dL_absorb_7 : decode cL_absorb 7 = .ok (.i2l, 1) := dk_at k_dL_absorb_0 (i := 5) rfl
theorem dL_absorb_8 : decode cL_absorb 8 = .ok (.putfield 13, 3) := dk_at k_dL_absorb_0 (i := 6) rfl
theorem dL_absorb_11 : decode cL_absorb 11 = .ok (.goto 11, 3) := dk_at k_dL_absorb_0 (i := 7) rfl
theorem dL_absorb_14 : decode cL_absorb 14 = .ok (.astore 4, 2) := dk_at k_dL_absorb_0 (i := 8) rfl
theorem dL_absorb_16 : decode cL_absorb 16 = .ok (.iconst 1, 1) := dk_at k_dL_absorb_0 (i := 9) rfl
theorem dL_absorb_17 : decode cL_absorb 17 = .ok (.ireturn, 1) := dk_at k_dL_absorb_0 (i := 10) rfl
theorem dL_absorb_18 : decode cL_absorb 18 = .ok (.astore 4, 2) := dk_at k_dL_absorb_0 (i := 11) rfl
theorem dL_absorb_20 : decode cL_absorb 20 = .ok (.iconst 2, 1) := dk_at k_dL_absorb_0 (i := 12) rfl
theorem dL_absorb_21 : decode cL_absorb 21 = .ok (.ireturn, 1) := dk_at k_dL_absorb_0 (i := 13) rfl
theorem dL_absorb_22 : decode cL_absorb 22 = .ok (.iconst 0, 1) := dk_at k_dL_absorb_0 (i := 14) rfl
theorem dL_absorb_23 : decode cL_absorb 23 = .ok (.ireturn, 1) := dk_at k_dL_absorb_0 (i := 15) rfl
theorem k_dL_ofField_0 : dk cL_ofField [(0, .aload_n 3, 1), (1, .aload_n 0, 1), (2, .iload_n 1, 1), (3, .iload_n 2, 1), (4, .invokevirtual 67, 3), (7, .i2l, 1), (8, .putfield 13, 3), (11, .goto 11, 3), (14, .astore 4, 2), (16, .iconst 1, 1), (17, .ireturn, 1), (18, .astore 4, 2), (20, .iconst 2, 1), (21, .ireturn, 1), (22, .iconst 0, 1), (23, .ireturn, 1)] = true := by decide +kernel
theorem dL_ofField_0 : decode cL_ofField 0 = .ok (.aload_n 3, 1) := dk_at k_dL_ofField_0 (i := 0) rfl
theorem dL_ofField_1 : decode cL_ofField 1 = .ok (.aload_n 0, 1) := dk_at k_dL_ofField_0 (i := 1) rfl
theorem dL_ofField_2 : decode cL_ofField 2 = .ok (.iload_n 1, 1) := dk_at k_dL_ofField_0 (i := 2) rfl
theorem dL_ofField_3 : decode cL_ofField 3 = .ok (.iload_n 2, 1) := dk_at k_dL_ofField_0 (i := 3) rfl
theorem dL_ofField_4 : decode cL_ofField 4 = .ok (.invokevirtual 67, 3) := dk_at k_dL_ofField_0 (i := 4) rfl
theorem dL_ofField_7 : decode cL_ofField 7 = .ok (.i2l, 1) := dk_at k_dL_ofField_0 (i := 5) rfl
theorem dL_ofField_8 : decode cL_ofField 8 = .ok (.putfield 13, 3) := dk_at k_dL_ofField_0 (i := 6) rfl
theorem dL_ofField_11 : decode cL_ofField 11 = .ok (.goto 11, 3) := dk_at k_dL_ofField_0 (i := 7) rfl
theorem dL_ofField_14 : decode cL_ofField 14 = .ok (.astore 4, 2) := dk_at k_dL_ofField_0 (i := 8) rfl
theorem dL_ofField_16 : decode cL_ofField 16 = .ok (.iconst 1, 1) := dk_at k_dL_ofField_0 (i := 9) rfl
theorem dL_ofField_17 : decode cL_ofField 17 = .ok (.ireturn, 1) := dk_at k_dL_ofField_0 (i := 10) rfl
theorem dL_ofField_18 : decode cL_ofField 18 = .ok (.astore 4, 2) := dk_at k_dL_ofField_0 (i := 11) rfl
theorem dL_ofField_20 : decode cL_ofField 20 = .ok (.iconst 2, 1) := dk_at k_dL_ofField_0 (i := 12) rfl
theorem dL_ofField_21 : decode cL_ofField 21 = .ok (.ireturn, 1) := dk_at k_dL_ofField_0 (i := 13) rfl
theorem dL_ofField_22 : decode cL_ofField 22 = .ok (.iconst 0, 1) := dk_at k_dL_ofField_0 (i := 14) rfl
theorem dL_ofField_23 : decode cL_ofField 23 = .ok (.ireturn, 1) := dk_at k_dL_ofField_0 (i := 15) rfl
theorem k_dL_ofLine_0 : dk cL_ofLine [(0, .aload_n 3, 1), (1, .aload_n 0, 1), (2, .iload_n 1, 1), (3, .iload_n 2, 1), (4, .invokevirtual 70, 3), (7, .i2l, 1), (8, .putfield 13, 3), (11, .goto 11, 3), (14, .astore 4, 2), (16, .iconst 1, 1), (17, .ireturn, 1), (18, .astore 4, 2), (20, .iconst 2, 1), (21, .ireturn, 1), (22, .iconst 0, 1), (23, .ireturn, 1)] = true := by decide +kernel
theorem dL_ofLine_0 : decode cL_ofLine 0 = .ok (.aload_n 3, 1) := dk_at k_dL_ofLine_0 (i := 0) rfl
theorem dL_ofLine_1 : decode cL_ofLine 1 = .ok (.aload_n 0, 1) := dk_at k_dL_ofLine_0 (i := 1) rfl
theorem dL_ofLine_2 : decode cL_ofLine 2 = .ok (.iload_n 1, 1) := dk_at k_dL_ofLine_0 (i := 2) rfl
theorem dL_ofLine_3 : decode cL_ofLine 3 = .ok (.iload_n 2, 1) := dk_at k_dL_ofLine_0 (i := 3) rfl
theorem dL_ofLine_4 : decode cL_ofLine 4 = .ok (.invokevirtual 70, 3) := dk_at k_dL_ofLine_0 (i := 4) rfl
theorem dL_ofLine_7 : decode cL_ofLine 7 = .ok (.i2l, 1) := dk_at k_dL_ofLine_0 (i := 5) rfl
theorem dL_ofLine_8 : decode cL_ofLine 8 = .ok (.putfield 13, 3) := dk_at k_dL_ofLine_0 (i := 6) rfl
theorem dL_ofLine_11 : decode cL_ofLine 11 = .ok (.goto 11, 3) := dk_at k_dL_ofLine_0 (i := 7) rfl
theorem dL_ofLine_14 : decode cL_ofLine 14 = .ok (.astore 4, 2) := dk_at k_dL_ofLine_0 (i := 8) rfl
theorem dL_ofLine_16 : decode cL_ofLine 16 = .ok (.iconst 1, 1) := dk_at k_dL_ofLine_0 (i := 9) rfl
theorem dL_ofLine_17 : decode cL_ofLine 17 = .ok (.ireturn, 1) := dk_at k_dL_ofLine_0 (i := 10) rfl
theorem dL_ofLine_18 : decode cL_ofLine 18 = .ok (.astore 4, 2) := dk_at k_dL_ofLine_0 (i := 11) rfl
theorem dL_ofLine_20 : decode cL_ofLine 20 = .ok (.iconst 2, 1) := dk_at k_dL_ofLine_0 (i := 12) rfl
theorem dL_ofLine_21 : decode cL_ofLine 21 = .ok (.ireturn, 1) := dk_at k_dL_ofLine_0 (i := 13) rfl
theorem dL_ofLine_22 : decode cL_ofLine 22 = .ok (.iconst 0, 1) := dk_at k_dL_ofLine_0 (i := 14) rfl
theorem dL_ofLine_23 : decode cL_ofLine 23 = .ok (.ireturn, 1) := dk_at k_dL_ofLine_0 (i := 15) rfl
theorem k_dL_ofMachine_0 : dk cL_ofMachine [(0, .aload_n 3, 1), (1, .aload_n 0, 1), (2, .iload_n 1, 1), (3, .iload_n 2, 1), (4, .invokevirtual 73, 3), (7, .i2l, 1), (8, .putfield 13, 3), (11, .goto 11, 3), (14, .astore 4, 2), (16, .iconst 1, 1), (17, .ireturn, 1), (18, .astore 4, 2), (20, .iconst 2, 1), (21, .ireturn, 1), (22, .iconst 0, 1), (23, .ireturn, 1)] = true := by decide +kernel
theorem dL_ofMachine_0 : decode cL_ofMachine 0 = .ok (.aload_n 3, 1) := dk_at k_dL_ofMachine_0 (i := 0) rfl
theorem dL_ofMachine_1 : decode cL_ofMachine 1 = .ok (.aload_n 0, 1) := dk_at k_dL_ofMachine_0 (i := 1) rfl
theorem dL_ofMachine_2 : decode cL_ofMachine 2 = .ok (.iload_n 1, 1) := dk_at k_dL_ofMachine_0 (i := 2) rfl
theorem dL_ofMachine_3 : decode cL_ofMachine 3 = .ok (.iload_n 2, 1) := dk_at k_dL_ofMachine_0 (i := 3) rfl
theorem dL_ofMachine_4 : decode cL_ofMachine 4 = .ok (.invokevirtual 73, 3) := dk_at k_dL_ofMachine_0 (i := 4) rfl
theorem dL_ofMachine_7 : decode cL_ofMachine 7 = .ok (.i2l, 1) := dk_at k_dL_ofMachine_0 (i := 5) rfl
theorem dL_ofMachine_8 : decode cL_ofMachine 8 = .ok (.putfield 13, 3) := dk_at k_dL_ofMachine_0 (i := 6) rfl
theorem dL_ofMachine_11 : decode cL_ofMachine 11 = .ok (.goto 11, 3) := dk_at k_dL_ofMachine_0 (i := 7) rfl
theorem dL_ofMachine_14 : decode cL_ofMachine 14 = .ok (.astore 4, 2) := dk_at k_dL_ofMachine_0 (i := 8) rfl
theorem dL_ofMachine_16 : decode cL_ofMachine 16 = .ok (.iconst 1, 1) := dk_at k_dL_ofMachine_0 (i := 9) rfl
theorem dL_ofMachine_17 : decode cL_ofMachine 17 = .ok (.ireturn, 1) := dk_at k_dL_ofMachine_0 (i := 10) rfl
theorem dL_ofMachine_18 : decode cL_ofMachine 18 = .ok (.astore 4, 2) := dk_at k_dL_ofMachine_0 (i := 11) rfl
theorem dL_ofMachine_20 : decode cL_ofMachine 20 = .ok (.iconst 2, 1) := dk_at k_dL_ofMachine_0 (i := 12) rfl
theorem dL_ofMachine_21 : decode cL_ofMachine 21 = .ok (.ireturn, 1) := dk_at k_dL_ofMachine_0 (i := 13) rfl
theorem dL_ofMachine_22 : decode cL_ofMachine 22 = .ok (.iconst 0, 1) := dk_at k_dL_ofMachine_0 (i := 14) rfl
theorem dL_ofMachine_23 : decode cL_ofMachine 23 = .ok (.ireturn, 1) := dk_at k_dL_ofMachine_0 (i := 15) rfl
theorem k_dL_has_0 : dk cL_has [(0, .aload_n 3, 1), (1, .aload_n 0, 1), (2, .iload_n 1, 1), (3, .iload_n 2, 1), (4, .invokevirtual 76, 3), (7, .i2l, 1), (8, .putfield 13, 3), (11, .goto 7, 3), (14, .astore 4, 2), (16, .iconst 1, 1), (17, .ireturn, 1), (18, .iconst 0, 1), (19, .ireturn, 1)] = true := by decide +kernel
theorem dL_has_0 : decode cL_has 0 = .ok (.aload_n 3, 1) := dk_at k_dL_has_0 (i := 0) rfl
theorem dL_has_1 : decode cL_has 1 = .ok (.aload_n 0, 1) := dk_at k_dL_has_0 (i := 1) rfl
theorem dL_has_2 : decode cL_has 2 = .ok (.iload_n 1, 1) := dk_at k_dL_has_0 (i := 2) rfl
theorem dL_has_3 : decode cL_has 3 = .ok (.iload_n 2, 1) := dk_at k_dL_has_0 (i := 3) rfl
theorem dL_has_4 : decode cL_has 4 = .ok (.invokevirtual 76, 3) := dk_at k_dL_has_0 (i := 4) rfl
theorem dL_has_7 : decode cL_has 7 = .ok (.i2l, 1) := dk_at k_dL_has_0 (i := 5) rfl
theorem dL_has_8 : decode cL_has 8 = .ok (.putfield 13, 3) := dk_at k_dL_has_0 (i := 6) rfl
theorem dL_has_11 : decode cL_has 11 = .ok (.goto 7, 3) := dk_at k_dL_has_0 (i := 7) rfl
theorem dL_has_14 : decode cL_has 14 = .ok (.astore 4, 2) := dk_at k_dL_has_0 (i := 8) rfl
theorem dL_has_16 : decode cL_has 16 = .ok (.iconst 1, 1) := dk_at k_dL_has_0 (i := 9) rfl
theorem dL_has_17 : decode cL_has 17 = .ok (.ireturn, 1) := dk_at k_dL_has_0 (i := 10) rfl
theorem dL_has_18 : decode cL_has 18 = .ok (.iconst 0, 1) := dk_at k_dL_has_0 (i := 11) rfl
theorem dL_has_19 : decode cL_has 19 = .ok (.ireturn, 1) := dk_at k_dL_has_0 (i := 12) rfl
theorem k_dL_ofCommit_0 : dk cL_ofCommit [(0, .aload_n 3, 1), (1, .aload_n 0, 1), (2, .iload_n 1, 1), (3, .iload_n 2, 1), (4, .invokevirtual 79, 3), (7, .i2l, 1), (8, .putfield 13, 3), (11, .goto 7, 3), (14, .astore 4, 2), (16, .iconst 1, 1), (17, .ireturn, 1), (18, .iconst 0, 1), (19, .ireturn, 1)] = true := by decide +kernel
theorem dL_ofCommit_0 : decode cL_ofCommit 0 = .ok (.aload_n 3, 1) := dk_at k_dL_ofCommit_0 (i := 0) rfl
theorem dL_ofCommit_1 : decode cL_ofCommit 1 = .ok (.aload_n 0, 1) := dk_at k_dL_ofCommit_0 (i := 1) rfl
theorem dL_ofCommit_2 : decode cL_ofCommit 2 = .ok (.iload_n 1, 1) := dk_at k_dL_ofCommit_0 (i := 2) rfl
theorem dL_ofCommit_3 : decode cL_ofCommit 3 = .ok (.iload_n 2, 1) := dk_at k_dL_ofCommit_0 (i := 3) rfl
theorem dL_ofCommit_4 : decode cL_ofCommit 4 = .ok (.invokevirtual 79, 3) := dk_at k_dL_ofCommit_0 (i := 4) rfl
theorem dL_ofCommit_7 : decode cL_ofCommit 7 = .ok (.i2l, 1) := dk_at k_dL_ofCommit_0 (i := 5) rfl
theorem dL_ofCommit_8 : decode cL_ofCommit 8 = .ok (.putfield 13, 3) := dk_at k_dL_ofCommit_0 (i := 6) rfl
theorem dL_ofCommit_11 : decode cL_ofCommit 11 = .ok (.goto 7, 3) := dk_at k_dL_ofCommit_0 (i := 7) rfl
theorem dL_ofCommit_14 : decode cL_ofCommit 14 = .ok (.astore 4, 2) := dk_at k_dL_ofCommit_0 (i := 8) rfl
theorem dL_ofCommit_16 : decode cL_ofCommit 16 = .ok (.iconst 1, 1) := dk_at k_dL_ofCommit_0 (i := 9) rfl
theorem dL_ofCommit_17 : decode cL_ofCommit 17 = .ok (.ireturn, 1) := dk_at k_dL_ofCommit_0 (i := 10) rfl
theorem dL_ofCommit_18 : decode cL_ofCommit 18 = .ok (.iconst 0, 1) := dk_at k_dL_ofCommit_0 (i := 11) rfl
theorem dL_ofCommit_19 : decode cL_ofCommit 19 = .ok (.ireturn, 1) := dk_at k_dL_ofCommit_0 (i := 12) rfl
theorem k_dL_house_0 : dk cL_house [(0, .aload_n 2, 1), (1, .aload_n 0, 1), (2, .iload_n 1, 1), (3, .invokevirtual 82, 3), (6, .i2l, 1), (7, .putfield 13, 3), (10, .goto 6, 3), (13, .astore_n 3, 1), (14, .iconst 1, 1), (15, .ireturn, 1), (16, .iconst 0, 1), (17, .ireturn, 1)] = true := by decide +kernel
theorem dL_house_0 : decode cL_house 0 = .ok (.aload_n 2, 1) := dk_at k_dL_house_0 (i := 0) rfl
theorem dL_house_1 : decode cL_house 1 = .ok (.aload_n 0, 1) := dk_at k_dL_house_0 (i := 1) rfl
theorem dL_house_2 : decode cL_house 2 = .ok (.iload_n 1, 1) := dk_at k_dL_house_0 (i := 2) rfl
theorem dL_house_3 : decode cL_house 3 = .ok (.invokevirtual 82, 3) := dk_at k_dL_house_0 (i := 3) rfl
theorem dL_house_6 : decode cL_house 6 = .ok (.i2l, 1) := dk_at k_dL_house_0 (i := 4) rfl
theorem dL_house_7 : decode cL_house 7 = .ok (.putfield 13, 3) := dk_at k_dL_house_0 (i := 5) rfl
theorem dL_house_10 : decode cL_house 10 = .ok (.goto 6, 3) := dk_at k_dL_house_0 (i := 6) rfl
theorem dL_house_13 : decode cL_house 13 = .ok (.astore_n 3, 1) := dk_at k_dL_house_0 (i := 7) rfl
theorem dL_house_14 : decode cL_house 14 = .ok (.iconst 1, 1) := dk_at k_dL_house_0 (i := 8) rfl
theorem dL_house_15 : decode cL_house 15 = .ok (.ireturn, 1) := dk_at k_dL_house_0 (i := 9) rfl
theorem dL_house_16 : decode cL_house 16 = .ok (.iconst 0, 1) := dk_at k_dL_house_0 (i := 10) rfl
theorem dL_house_17 : decode cL_house 17 = .ok (.ireturn, 1) := dk_at k_dL_house_0 (i := 11) rfl
theorem k_dL_value_0 : dk cL_value [(0, .aload_n 2, 1), (1, .aload_n 0, 1), (2, .iload_n 1, 1), (3, .invokevirtual 85, 3), (6, .putfield 89, 3), (9, .goto 6, 3), (12, .astore_n 3, 1), (13, .iconst 1, 1), (14, .ireturn, 1), (15, .iconst 0, 1), (16, .ireturn, 1)] = true := by decide +kernel
theorem dL_value_0 : decode cL_value 0 = .ok (.aload_n 2, 1) := dk_at k_dL_value_0 (i := 0) rfl
theorem dL_value_1 : decode cL_value 1 = .ok (.aload_n 0, 1) := dk_at k_dL_value_0 (i := 1) rfl
theorem dL_value_2 : decode cL_value 2 = .ok (.iload_n 1, 1) := dk_at k_dL_value_0 (i := 2) rfl
theorem dL_value_3 : decode cL_value 3 = .ok (.invokevirtual 85, 3) := dk_at k_dL_value_0 (i := 3) rfl
theorem dL_value_6 : decode cL_value 6 = .ok (.putfield 89, 3) := dk_at k_dL_value_0 (i := 4) rfl
theorem dL_value_9 : decode cL_value 9 = .ok (.goto 6, 3) := dk_at k_dL_value_0 (i := 5) rfl
theorem dL_value_12 : decode cL_value 12 = .ok (.astore_n 3, 1) := dk_at k_dL_value_0 (i := 6) rfl
theorem dL_value_13 : decode cL_value 13 = .ok (.iconst 1, 1) := dk_at k_dL_value_0 (i := 7) rfl
theorem dL_value_14 : decode cL_value 14 = .ok (.ireturn, 1) := dk_at k_dL_value_0 (i := 8) rfl
theorem dL_value_15 : decode cL_value 15 = .ok (.iconst 0, 1) := dk_at k_dL_value_0 (i := 9) rfl
theorem dL_value_16 : decode cL_value 16 = .ok (.ireturn, 1) := dk_at k_dL_value_0 (i := 10) rfl
theorem k_dL_reason_0 : dk cL_reason [(0, .aload_n 2, 1), (1, .aload_n 0, 1), (2, .iload_n 1, 1), (3, .invokevirtual 93, 3), (6, .i2l, 1), (7, .putfield 13, 3), (10, .goto 6, 3), (13, .astore_n 3, 1), (14, .iconst 1, 1), (15, .ireturn, 1), (16, .iconst 0, 1), (17, .ireturn, 1)] = true := by decide +kernel
theorem dL_reason_0 : decode cL_reason 0 = .ok (.aload_n 2, 1) := dk_at k_dL_reason_0 (i := 0) rfl
theorem dL_reason_1 : decode cL_reason 1 = .ok (.aload_n 0, 1) := dk_at k_dL_reason_0 (i := 1) rfl
theorem dL_reason_2 : decode cL_reason 2 = .ok (.iload_n 1, 1) := dk_at k_dL_reason_0 (i := 2) rfl
theorem dL_reason_3 : decode cL_reason 3 = .ok (.invokevirtual 93, 3) := dk_at k_dL_reason_0 (i := 3) rfl
theorem dL_reason_6 : decode cL_reason 6 = .ok (.i2l, 1) := dk_at k_dL_reason_0 (i := 4) rfl
theorem dL_reason_7 : decode cL_reason 7 = .ok (.putfield 13, 3) := dk_at k_dL_reason_0 (i := 5) rfl
theorem dL_reason_10 : decode cL_reason 10 = .ok (.goto 6, 3) := dk_at k_dL_reason_0 (i := 6) rfl
theorem dL_reason_13 : decode cL_reason 13 = .ok (.astore_n 3, 1) := dk_at k_dL_reason_0 (i := 7) rfl
theorem dL_reason_14 : decode cL_reason 14 = .ok (.iconst 1, 1) := dk_at k_dL_reason_0 (i := 8) rfl
theorem dL_reason_15 : decode cL_reason 15 = .ok (.ireturn, 1) := dk_at k_dL_reason_0 (i := 9) rfl
theorem dL_reason_16 : decode cL_reason 16 = .ok (.iconst 0, 1) := dk_at k_dL_reason_0 (i := 10) rfl
theorem dL_reason_17 : decode cL_reason 17 = .ok (.ireturn, 1) := dk_at k_dL_reason_0 (i := 11) rfl
theorem k_dL_met_0 : dk cL_met [(0, .aload_n 3, 1), (1, .aload_n 0, 1), (2, .iload_n 1, 1), (3, .iload_n 2, 1), (4, .invokevirtual 96, 3), (7, .i2l, 1), (8, .putfield 13, 3), (11, .goto 11, 3), (14, .astore 4, 2), (16, .iconst 1, 1), (17, .ireturn, 1), (18, .astore 4, 2), (20, .iconst 2, 1), (21, .ireturn, 1), (22, .iconst 0, 1), (23, .ireturn, 1)] = true := by decide +kernel
theorem dL_met_0 : decode cL_met 0 = .ok (.aload_n 3, 1) := dk_at k_dL_met_0 (i := 0) rfl
theorem dL_met_1 : decode cL_met 1 = .ok (.aload_n 0, 1) := dk_at k_dL_met_0 (i := 1) rfl
theorem dL_met_2 : decode cL_met 2 = .ok (.iload_n 1, 1) := dk_at k_dL_met_0 (i := 2) rfl
theorem dL_met_3 : decode cL_met 3 = .ok (.iload_n 2, 1) := dk_at k_dL_met_0 (i := 3) rfl
theorem dL_met_4 : decode cL_met 4 = .ok (.invokevirtual 96, 3) := dk_at k_dL_met_0 (i := 4) rfl
theorem dL_met_7 : decode cL_met 7 = .ok (.i2l, 1) := dk_at k_dL_met_0 (i := 5) rfl
theorem dL_met_8 : decode cL_met 8 = .ok (.putfield 13, 3) := dk_at k_dL_met_0 (i := 6) rfl
theorem dL_met_11 : decode cL_met 11 = .ok (.goto 11, 3) := dk_at k_dL_met_0 (i := 7) rfl
theorem dL_met_14 : decode cL_met 14 = .ok (.astore 4, 2) := dk_at k_dL_met_0 (i := 8) rfl
theorem dL_met_16 : decode cL_met 16 = .ok (.iconst 1, 1) := dk_at k_dL_met_0 (i := 9) rfl
theorem dL_met_17 : decode cL_met 17 = .ok (.ireturn, 1) := dk_at k_dL_met_0 (i := 10) rfl
theorem dL_met_18 : decode cL_met 18 = .ok (.astore 4, 2) := dk_at k_dL_met_0 (i := 11) rfl
theorem dL_met_20 : decode cL_met 20 = .ok (.iconst 2, 1) := dk_at k_dL_met_0 (i := 12) rfl
theorem dL_met_21 : decode cL_met 21 = .ok (.ireturn, 1) := dk_at k_dL_met_0 (i := 13) rfl
theorem dL_met_22 : decode cL_met 22 = .ok (.iconst 0, 1) := dk_at k_dL_met_0 (i := 14) rfl
theorem dL_met_23 : decode cL_met 23 = .ok (.ireturn, 1) := dk_at k_dL_met_0 (i := 15) rfl
theorem k_dL_choices_0 : dk cL_choices [(0, .aload_n 3, 1), (1, .aload_n 0, 1), (2, .iload_n 1, 1), (3, .iload_n 2, 1), (4, .invokevirtual 99, 3), (7, .i2l, 1), (8, .putfield 13, 3), (11, .goto 11, 3), (14, .astore 4, 2), (16, .iconst 1, 1), (17, .ireturn, 1), (18, .astore 4, 2), (20, .iconst 2, 1), (21, .ireturn, 1), (22, .iconst 0, 1), (23, .ireturn, 1)] = true := by decide +kernel
theorem dL_choices_0 : decode cL_choices 0 = .ok (.aload_n 3, 1) := dk_at k_dL_choices_0 (i := 0) rfl
theorem dL_choices_1 : decode cL_choices 1 = .ok (.aload_n 0, 1) := dk_at k_dL_choices_0 (i := 1) rfl
theorem dL_choices_2 : decode cL_choices 2 = .ok (.iload_n 1, 1) := dk_at k_dL_choices_0 (i := 2) rfl
theorem dL_choices_3 : decode cL_choices 3 = .ok (.iload_n 2, 1) := dk_at k_dL_choices_0 (i := 3) rfl
theorem dL_choices_4 : decode cL_choices 4 = .ok (.invokevirtual 99, 3) := dk_at k_dL_choices_0 (i := 4) rfl
theorem dL_choices_7 : decode cL_choices 7 = .ok (.i2l, 1) := dk_at k_dL_choices_0 (i := 5) rfl
theorem dL_choices_8 : decode cL_choices 8 = .ok (.putfield 13, 3) := dk_at k_dL_choices_0 (i := 6) rfl
theorem dL_choices_11 : decode cL_choices 11 = .ok (.goto 11, 3) := dk_at k_dL_choices_0 (i := 7) rfl
theorem dL_choices_14 : decode cL_choices 14 = .ok (.astore 4, 2) := dk_at k_dL_choices_0 (i := 8) rfl
theorem dL_choices_16 : decode cL_choices 16 = .ok (.iconst 1, 1) := dk_at k_dL_choices_0 (i := 9) rfl
theorem dL_choices_17 : decode cL_choices 17 = .ok (.ireturn, 1) := dk_at k_dL_choices_0 (i := 10) rfl
theorem dL_choices_18 : decode cL_choices 18 = .ok (.astore 4, 2) := dk_at k_dL_choices_0 (i := 11) rfl
theorem dL_choices_20 : decode cL_choices 20 = .ok (.iconst 2, 1) := dk_at k_dL_choices_0 (i := 12) rfl
theorem dL_choices_21 : decode cL_choices 21 = .ok (.ireturn, 1) := dk_at k_dL_choices_0 (i := 13) rfl
theorem dL_choices_22 : decode cL_choices 22 = .ok (.iconst 0, 1) := dk_at k_dL_choices_0 (i := 14) rfl
theorem dL_choices_23 : decode cL_choices 23 = .ok (.ireturn, 1) := dk_at k_dL_choices_0 (i := 15) rfl
theorem k_dL_isNarrower_0 : dk cL_isNarrower [(0, .aload_n 3, 1), (1, .aload_n 0, 1), (2, .iload_n 1, 1), (3, .iload_n 2, 1), (4, .invokevirtual 102, 3), (7, .ifCond .eq 7, 3), (10, .lconst 1, 1), (11, .goto 4, 3), (14, .lconst 0, 1), (15, .putfield 13, 3), (18, .goto 7, 3), (21, .astore 4, 2), (23, .iconst 1, 1), (24, .ireturn, 1), (25, .iconst 0, 1), (26, .ireturn, 1)] = true := by decide +kernel
theorem dL_isNarrower_0 : decode cL_isNarrower 0 = .ok (.aload_n 3, 1) := dk_at k_dL_isNarrower_0 (i := 0) rfl
theorem dL_isNarrower_1 : decode cL_isNarrower 1 = .ok (.aload_n 0, 1) := dk_at k_dL_isNarrower_0 (i := 1) rfl
theorem dL_isNarrower_2 : decode cL_isNarrower 2 = .ok (.iload_n 1, 1) := dk_at k_dL_isNarrower_0 (i := 2) rfl
theorem dL_isNarrower_3 : decode cL_isNarrower 3 = .ok (.iload_n 2, 1) := dk_at k_dL_isNarrower_0 (i := 3) rfl
theorem dL_isNarrower_4 : decode cL_isNarrower 4 = .ok (.invokevirtual 102, 3) := dk_at k_dL_isNarrower_0 (i := 4) rfl
theorem dL_isNarrower_7 : decode cL_isNarrower 7 = .ok (.ifCond .eq 7, 3) := dk_at k_dL_isNarrower_0 (i := 5) rfl
theorem dL_isNarrower_10 : decode cL_isNarrower 10 = .ok (.lconst 1, 1) := dk_at k_dL_isNarrower_0 (i := 6) rfl
theorem dL_isNarrower_11 : decode cL_isNarrower 11 = .ok (.goto 4, 3) := dk_at k_dL_isNarrower_0 (i := 7) rfl
theorem dL_isNarrower_14 : decode cL_isNarrower 14 = .ok (.lconst 0, 1) := dk_at k_dL_isNarrower_0 (i := 8) rfl
theorem dL_isNarrower_15 : decode cL_isNarrower 15 = .ok (.putfield 13, 3) := dk_at k_dL_isNarrower_0 (i := 9) rfl
theorem dL_isNarrower_18 : decode cL_isNarrower 18 = .ok (.goto 7, 3) := dk_at k_dL_isNarrower_0 (i := 10) rfl
theorem dL_isNarrower_21 : decode cL_isNarrower 21 = .ok (.astore 4, 2) := dk_at k_dL_isNarrower_0 (i := 11) rfl
theorem dL_isNarrower_23 : decode cL_isNarrower 23 = .ok (.iconst 1, 1) := dk_at k_dL_isNarrower_0 (i := 12) rfl
theorem dL_isNarrower_24 : decode cL_isNarrower 24 = .ok (.ireturn, 1) := dk_at k_dL_isNarrower_0 (i := 13) rfl
theorem dL_isNarrower_25 : decode cL_isNarrower 25 = .ok (.iconst 0, 1) := dk_at k_dL_isNarrower_0 (i := 14) rfl
theorem dL_isNarrower_26 : decode cL_isNarrower 26 = .ok (.ireturn, 1) := dk_at k_dL_isNarrower_0 (i := 15) rfl
theorem k_dL_law_0 : dk cL_law [(0, .new 8, 3), (3, .dup, 1), (4, .invokespecial 106, 3), (7, .astore_n 1, 1), (8, .new 107, 3), (11, .dup, 1), (12, .invokespecial 109, 3), (15, .astore_n 2, 1), (16, .new 14, 3), (19, .dup, 1), (20, .invokespecial 110, 3), (23, .astore_n 3, 1), (24, .iconst 0, 1), (25, .istore 4, 2), (27, .iload 4, 2), (29, .aload_n 0, 1), (30, .arraylength, 1), (31, .iconst 5, 1), (32, .isub, 1), (33, .if_icmp .gt 1256, 3), (36, .aload_n 0, 1), (37, .iload 4, 2), (39, .iaload, 1), (40, .bipush 31, 2), (42, .iand, 1), (43, .tableswitch 1240 0 26 #[121, 149, 201, 281, 345, 397, 461, 553, 609, 649, 665, 705, 757, 797, 810, 850, 890, 930, 970, 1010, 1038, 1066, 1094, 1134, 1174, 1214, 1227], 121), (164, .aload_n 1, 1), (165, .aload_n 0, 1), (166, .iload 4, 2), (168, .iconst 1, 1), (169, .iadd, 1), (170, .iaload, 1)] = true := by decide +kernel
theorem dL_law_0 : decode cL_law 0 = .ok (.new 8, 3) := dk_at k_dL_law_0 (i := 0) rfl
theorem dL_law_3 : decode cL_law 3 = .ok (.dup, 1) := dk_at k_dL_law_0 (i := 1) rfl
theorem dL_law_4 : decode cL_law 4 = .ok (.invokespecial 106, 3) := dk_at k_dL_law_0 (i := 2) rfl
theorem dL_law_7 : decode cL_law 7 = .ok (.astore_n 1, 1) := dk_at k_dL_law_0 (i := 3) rfl
theorem dL_law_8 : decode cL_law 8 = .ok (.new 107, 3) := dk_at k_dL_law_0 (i := 4) rfl
theorem dL_law_11 : decode cL_law 11 = .ok (.dup, 1) := dk_at k_dL_law_0 (i := 5) rfl
theorem dL_law_12 : decode cL_law 12 = .ok (.invokespecial 109, 3) := dk_at k_dL_law_0 (i := 6) rfl
theorem dL_law_15 : decode cL_law 15 = .ok (.astore_n 2, 1) := dk_at k_dL_law_0 (i := 7) rfl
theorem dL_law_16 : decode cL_law 16 = .ok (.new 14, 3) := dk_at k_dL_law_0 (i := 8) rfl
theorem dL_law_19 : decode cL_law 19 = .ok (.dup, 1) := dk_at k_dL_law_0 (i := 9) rfl
theorem dL_law_20 : decode cL_law 20 = .ok (.invokespecial 110, 3) := dk_at k_dL_law_0 (i := 10) rfl
theorem dL_law_23 : decode cL_law 23 = .ok (.astore_n 3, 1) := dk_at k_dL_law_0 (i := 11) rfl
theorem dL_law_24 : decode cL_law 24 = .ok (.iconst 0, 1) := dk_at k_dL_law_0 (i := 12) rfl
theorem dL_law_25 : decode cL_law 25 = .ok (.istore 4, 2) := dk_at k_dL_law_0 (i := 13) rfl
theorem dL_law_27 : decode cL_law 27 = .ok (.iload 4, 2) := dk_at k_dL_law_0 (i := 14) rfl
theorem dL_law_29 : decode cL_law 29 = .ok (.aload_n 0, 1) := dk_at k_dL_law_0 (i := 15) rfl
theorem dL_law_30 : decode cL_law 30 = .ok (.arraylength, 1) := dk_at k_dL_law_0 (i := 16) rfl
theorem dL_law_31 : decode cL_law 31 = .ok (.iconst 5, 1) := dk_at k_dL_law_0 (i := 17) rfl
theorem dL_law_32 : decode cL_law 32 = .ok (.isub, 1) := dk_at k_dL_law_0 (i := 18) rfl
theorem dL_law_33 : decode cL_law 33 = .ok (.if_icmp .gt 1256, 3) := dk_at k_dL_law_0 (i := 19) rfl
theorem dL_law_36 : decode cL_law 36 = .ok (.aload_n 0, 1) := dk_at k_dL_law_0 (i := 20) rfl
theorem dL_law_37 : decode cL_law 37 = .ok (.iload 4, 2) := dk_at k_dL_law_0 (i := 21) rfl
theorem dL_law_39 : decode cL_law 39 = .ok (.iaload, 1) := dk_at k_dL_law_0 (i := 22) rfl
theorem dL_law_40 : decode cL_law 40 = .ok (.bipush 31, 2) := dk_at k_dL_law_0 (i := 23) rfl
theorem dL_law_42 : decode cL_law 42 = .ok (.iand, 1) := dk_at k_dL_law_0 (i := 24) rfl
theorem dL_law_43 : decode cL_law 43 = .ok (.tableswitch 1240 0 26 #[121, 149, 201, 281, 345, 397, 461, 553, 609, 649, 665, 705, 757, 797, 810, 850, 890, 930, 970, 1010, 1038, 1066, 1094, 1134, 1174, 1214, 1227], 121) := dk_at k_dL_law_0 (i := 25) rfl
theorem dL_law_164 : decode cL_law 164 = .ok (.aload_n 1, 1) := dk_at k_dL_law_0 (i := 26) rfl
theorem dL_law_165 : decode cL_law 165 = .ok (.aload_n 0, 1) := dk_at k_dL_law_0 (i := 27) rfl
theorem dL_law_166 : decode cL_law 166 = .ok (.iload 4, 2) := dk_at k_dL_law_0 (i := 28) rfl
theorem dL_law_168 : decode cL_law 168 = .ok (.iconst 1, 1) := dk_at k_dL_law_0 (i := 29) rfl
theorem dL_law_169 : decode cL_law 169 = .ok (.iadd, 1) := dk_at k_dL_law_0 (i := 30) rfl
theorem dL_law_170 : decode cL_law 170 = .ok (.iaload, 1) := dk_at k_dL_law_0 (i := 31) rfl
theorem k_dL_law_171 : dk cL_law [(171, .aload_n 3, 1), (172, .invokestatic 111, 3), (175, .istore 5, 2), (177, .aload_n 2, 1), (178, .aload_n 0, 1), (179, .iload 4, 2), (181, .iconst 1, 1), (182, .iadd, 1), (183, .iaload, 1), (184, .invokevirtual 116, 3), (187, .istore 6, 2), (189, .goto 1094, 3), (192, .aload_n 1, 1), (193, .aload_n 0, 1), (194, .iload 4, 2), (196, .iconst 1, 1), (197, .iadd, 1), (198, .iaload, 1), (199, .aload_n 0, 1), (200, .iload 4, 2), (202, .iconst 2, 1), (203, .iadd, 1), (204, .iaload, 1), (205, .aload_n 0, 1), (206, .iload 4, 2), (208, .iconst 3, 1), (209, .iadd, 1), (210, .iaload, 1), (211, .aload_n 3, 1), (212, .invokestatic 117, 3), (215, .istore 5, 2), (217, .aload_n 2, 1)] = true := by decide +kernel
theorem dL_law_171 : decode cL_law 171 = .ok (.aload_n 3, 1) := dk_at k_dL_law_171 (i := 0) rfl
theorem dL_law_172 : decode cL_law 172 = .ok (.invokestatic 111, 3) := dk_at k_dL_law_171 (i := 1) rfl
theorem dL_law_175 : decode cL_law 175 = .ok (.istore 5, 2) := dk_at k_dL_law_171 (i := 2) rfl
theorem dL_law_177 : decode cL_law 177 = .ok (.aload_n 2, 1) := dk_at k_dL_law_171 (i := 3) rfl
theorem dL_law_178 : decode cL_law 178 = .ok (.aload_n 0, 1) := dk_at k_dL_law_171 (i := 4) rfl
theorem dL_law_179 : decode cL_law 179 = .ok (.iload 4, 2) := dk_at k_dL_law_171 (i := 5) rfl
theorem dL_law_181 : decode cL_law 181 = .ok (.iconst 1, 1) := dk_at k_dL_law_171 (i := 6) rfl
theorem dL_law_182 : decode cL_law 182 = .ok (.iadd, 1) := dk_at k_dL_law_171 (i := 7) rfl
theorem dL_law_183 : decode cL_law 183 = .ok (.iaload, 1) := dk_at k_dL_law_171 (i := 8) rfl
theorem dL_law_184 : decode cL_law 184 = .ok (.invokevirtual 116, 3) := dk_at k_dL_law_171 (i := 9) rfl
theorem dL_law_187 : decode cL_law 187 = .ok (.istore 6, 2) := dk_at k_dL_law_171 (i := 10) rfl
theorem dL_law_189 : decode cL_law 189 = .ok (.goto 1094, 3) := dk_at k_dL_law_171 (i := 11) rfl
theorem dL_law_192 : decode cL_law 192 = .ok (.aload_n 1, 1) := dk_at k_dL_law_171 (i := 12) rfl
theorem dL_law_193 : decode cL_law 193 = .ok (.aload_n 0, 1) := dk_at k_dL_law_171 (i := 13) rfl
theorem dL_law_194 : decode cL_law 194 = .ok (.iload 4, 2) := dk_at k_dL_law_171 (i := 14) rfl
theorem dL_law_196 : decode cL_law 196 = .ok (.iconst 1, 1) := dk_at k_dL_law_171 (i := 15) rfl
theorem dL_law_197 : decode cL_law 197 = .ok (.iadd, 1) := dk_at k_dL_law_171 (i := 16) rfl
theorem dL_law_198 : decode cL_law 198 = .ok (.iaload, 1) := dk_at k_dL_law_171 (i := 17) rfl
theorem dL_law_199 : decode cL_law 199 = .ok (.aload_n 0, 1) := dk_at k_dL_law_171 (i := 18) rfl
theorem dL_law_200 : decode cL_law 200 = .ok (.iload 4, 2) := dk_at k_dL_law_171 (i := 19) rfl
theorem dL_law_202 : decode cL_law 202 = .ok (.iconst 2, 1) := dk_at k_dL_law_171 (i := 20) rfl
theorem dL_law_203 : decode cL_law 203 = .ok (.iadd, 1) := dk_at k_dL_law_171 (i := 21) rfl
theorem dL_law_204 : decode cL_law 204 = .ok (.iaload, 1) := dk_at k_dL_law_171 (i := 22) rfl
theorem dL_law_205 : decode cL_law 205 = .ok (.aload_n 0, 1) := dk_at k_dL_law_171 (i := 23) rfl
theorem dL_law_206 : decode cL_law 206 = .ok (.iload 4, 2) := dk_at k_dL_law_171 (i := 24) rfl
theorem dL_law_208 : decode cL_law 208 = .ok (.iconst 3, 1) := dk_at k_dL_law_171 (i := 25) rfl
theorem dL_law_209 : decode cL_law 209 = .ok (.iadd, 1) := dk_at k_dL_law_171 (i := 26) rfl
theorem dL_law_210 : decode cL_law 210 = .ok (.iaload, 1) := dk_at k_dL_law_171 (i := 27) rfl
theorem dL_law_211 : decode cL_law 211 = .ok (.aload_n 3, 1) := dk_at k_dL_law_171 (i := 28) rfl
theorem dL_law_212 : decode cL_law 212 = .ok (.invokestatic 117, 3) := dk_at k_dL_law_171 (i := 29) rfl
theorem dL_law_215 : decode cL_law 215 = .ok (.istore 5, 2) := dk_at k_dL_law_171 (i := 30) rfl
theorem dL_law_217 : decode cL_law 217 = .ok (.aload_n 2, 1) := dk_at k_dL_law_171 (i := 31) rfl
theorem k_dL_law_218 : dk cL_law [(218, .aload_n 0, 1), (219, .iload 4, 2), (221, .iconst 1, 1), (222, .iadd, 1), (223, .iaload, 1), (224, .aload_n 0, 1), (225, .iload 4, 2), (227, .iconst 2, 1), (228, .iadd, 1), (229, .iaload, 1), (230, .aload_n 0, 1), (231, .iload 4, 2), (233, .iconst 3, 1), (234, .iadd, 1), (235, .iaload, 1), (236, .invokevirtual 120, 3), (239, .istore 6, 2), (241, .goto 1042, 3), (244, .aload_n 1, 1), (245, .aload_n 0, 1), (246, .iload 4, 2), (248, .iconst 1, 1), (249, .iadd, 1), (250, .iaload, 1), (251, .aload_n 0, 1), (252, .iload 4, 2), (254, .iconst 2, 1), (255, .iadd, 1), (256, .iaload, 1), (257, .aload_n 0, 1), (258, .iload 4, 2), (260, .iconst 3, 1)] = true := by decide +kernel
theorem dL_law_218 : decode cL_law 218 = .ok (.aload_n 0, 1) := dk_at k_dL_law_218 (i := 0) rfl
theorem dL_law_219 : decode cL_law 219 = .ok (.iload 4, 2) := dk_at k_dL_law_218 (i := 1) rfl
theorem dL_law_221 : decode cL_law 221 = .ok (.iconst 1, 1) := dk_at k_dL_law_218 (i := 2) rfl
theorem dL_law_222 : decode cL_law 222 = .ok (.iadd, 1) := dk_at k_dL_law_218 (i := 3) rfl
theorem dL_law_223 : decode cL_law 223 = .ok (.iaload, 1) := dk_at k_dL_law_218 (i := 4) rfl
theorem dL_law_224 : decode cL_law 224 = .ok (.aload_n 0, 1) := dk_at k_dL_law_218 (i := 5) rfl
theorem dL_law_225 : decode cL_law 225 = .ok (.iload 4, 2) := dk_at k_dL_law_218 (i := 6) rfl
theorem dL_law_227 : decode cL_law 227 = .ok (.iconst 2, 1) := dk_at k_dL_law_218 (i := 7) rfl
theorem dL_law_228 : decode cL_law 228 = .ok (.iadd, 1) := dk_at k_dL_law_218 (i := 8) rfl
theorem dL_law_229 : decode cL_law 229 = .ok (.iaload, 1) := dk_at k_dL_law_218 (i := 9) rfl
theorem dL_law_230 : decode cL_law 230 = .ok (.aload_n 0, 1) := dk_at k_dL_law_218 (i := 10) rfl
theorem dL_law_231 : decode cL_law 231 = .ok (.iload 4, 2) := dk_at k_dL_law_218 (i := 11) rfl
theorem dL_law_233 : decode cL_law 233 = .ok (.iconst 3, 1) := dk_at k_dL_law_218 (i := 12) rfl
theorem dL_law_234 : decode cL_law 234 = .ok (.iadd, 1) := dk_at k_dL_law_218 (i := 13) rfl
theorem dL_law_235 : decode cL_law 235 = .ok (.iaload, 1) := dk_at k_dL_law_218 (i := 14) rfl
theorem dL_law_236 : decode cL_law 236 = .ok (.invokevirtual 120, 3) := dk_at k_dL_law_218 (i := 15) rfl
theorem dL_law_239 : decode cL_law 239 = .ok (.istore 6, 2) := dk_at k_dL_law_218 (i := 16) rfl
theorem dL_law_241 : decode cL_law 241 = .ok (.goto 1042, 3) := dk_at k_dL_law_218 (i := 17) rfl
theorem dL_law_244 : decode cL_law 244 = .ok (.aload_n 1, 1) := dk_at k_dL_law_218 (i := 18) rfl
theorem dL_law_245 : decode cL_law 245 = .ok (.aload_n 0, 1) := dk_at k_dL_law_218 (i := 19) rfl
theorem dL_law_246 : decode cL_law 246 = .ok (.iload 4, 2) := dk_at k_dL_law_218 (i := 20) rfl
theorem dL_law_248 : decode cL_law 248 = .ok (.iconst 1, 1) := dk_at k_dL_law_218 (i := 21) rfl
theorem dL_law_249 : decode cL_law 249 = .ok (.iadd, 1) := dk_at k_dL_law_218 (i := 22) rfl
theorem dL_law_250 : decode cL_law 250 = .ok (.iaload, 1) := dk_at k_dL_law_218 (i := 23) rfl
theorem dL_law_251 : decode cL_law 251 = .ok (.aload_n 0, 1) := dk_at k_dL_law_218 (i := 24) rfl
theorem dL_law_252 : decode cL_law 252 = .ok (.iload 4, 2) := dk_at k_dL_law_218 (i := 25) rfl
theorem dL_law_254 : decode cL_law 254 = .ok (.iconst 2, 1) := dk_at k_dL_law_218 (i := 26) rfl
theorem dL_law_255 : decode cL_law 255 = .ok (.iadd, 1) := dk_at k_dL_law_218 (i := 27) rfl
theorem dL_law_256 : decode cL_law 256 = .ok (.iaload, 1) := dk_at k_dL_law_218 (i := 28) rfl
theorem dL_law_257 : decode cL_law 257 = .ok (.aload_n 0, 1) := dk_at k_dL_law_218 (i := 29) rfl
theorem dL_law_258 : decode cL_law 258 = .ok (.iload 4, 2) := dk_at k_dL_law_218 (i := 30) rfl
theorem dL_law_260 : decode cL_law 260 = .ok (.iconst 3, 1) := dk_at k_dL_law_218 (i := 31) rfl
theorem k_dL_law_261 : dk cL_law [(261, .iadd, 1), (262, .iaload, 1), (263, .aload_n 0, 1), (264, .iload 4, 2), (266, .iconst 4, 1), (267, .iadd, 1), (268, .iaload, 1), (269, .ifCond .eq 7, 3), (272, .iconst 1, 1), (273, .goto 4, 3), (276, .iconst 0, 1), (277, .aload_n 3, 1), (278, .invokestatic 121, 3), (281, .istore 5, 2), (283, .aload_n 2, 1), (284, .aload_n 0, 1), (285, .iload 4, 2), (287, .iconst 1, 1), (288, .iadd, 1), (289, .iaload, 1), (290, .aload_n 0, 1), (291, .iload 4, 2), (293, .iconst 2, 1), (294, .iadd, 1), (295, .iaload, 1), (296, .aload_n 0, 1), (297, .iload 4, 2), (299, .iconst 3, 1), (300, .iadd, 1), (301, .iaload, 1), (302, .aload_n 0, 1), (303, .iload 4, 2)] = true := by decide +kernel
theorem dL_law_261 : decode cL_law 261 = .ok (.iadd, 1) := dk_at k_dL_law_261 (i := 0) rfl
theorem dL_law_262 : decode cL_law 262 = .ok (.iaload, 1) := dk_at k_dL_law_261 (i := 1) rfl
theorem dL_law_263 : decode cL_law 263 = .ok (.aload_n 0, 1) := dk_at k_dL_law_261 (i := 2) rfl
theorem dL_law_264 : decode cL_law 264 = .ok (.iload 4, 2) := dk_at k_dL_law_261 (i := 3) rfl
theorem dL_law_266 : decode cL_law 266 = .ok (.iconst 4, 1) := dk_at k_dL_law_261 (i := 4) rfl
theorem dL_law_267 : decode cL_law 267 = .ok (.iadd, 1) := dk_at k_dL_law_261 (i := 5) rfl
theorem dL_law_268 : decode cL_law 268 = .ok (.iaload, 1) := dk_at k_dL_law_261 (i := 6) rfl
theorem dL_law_269 : decode cL_law 269 = .ok (.ifCond .eq 7, 3) := dk_at k_dL_law_261 (i := 7) rfl
theorem dL_law_272 : decode cL_law 272 = .ok (.iconst 1, 1) := dk_at k_dL_law_261 (i := 8) rfl
theorem dL_law_273 : decode cL_law 273 = .ok (.goto 4, 3) := dk_at k_dL_law_261 (i := 9) rfl
theorem dL_law_276 : decode cL_law 276 = .ok (.iconst 0, 1) := dk_at k_dL_law_261 (i := 10) rfl
theorem dL_law_277 : decode cL_law 277 = .ok (.aload_n 3, 1) := dk_at k_dL_law_261 (i := 11) rfl
theorem dL_law_278 : decode cL_law 278 = .ok (.invokestatic 121, 3) := dk_at k_dL_law_261 (i := 12) rfl
theorem dL_law_281 : decode cL_law 281 = .ok (.istore 5, 2) := dk_at k_dL_law_261 (i := 13) rfl
theorem dL_law_283 : decode cL_law 283 = .ok (.aload_n 2, 1) := dk_at k_dL_law_261 (i := 14) rfl
theorem dL_law_284 : decode cL_law 284 = .ok (.aload_n 0, 1) := dk_at k_dL_law_261 (i := 15) rfl
theorem dL_law_285 : decode cL_law 285 = .ok (.iload 4, 2) := dk_at k_dL_law_261 (i := 16) rfl
theorem dL_law_287 : decode cL_law 287 = .ok (.iconst 1, 1) := dk_at k_dL_law_261 (i := 17) rfl
theorem dL_law_288 : decode cL_law 288 = .ok (.iadd, 1) := dk_at k_dL_law_261 (i := 18) rfl
theorem dL_law_289 : decode cL_law 289 = .ok (.iaload, 1) := dk_at k_dL_law_261 (i := 19) rfl
theorem dL_law_290 : decode cL_law 290 = .ok (.aload_n 0, 1) := dk_at k_dL_law_261 (i := 20) rfl
theorem dL_law_291 : decode cL_law 291 = .ok (.iload 4, 2) := dk_at k_dL_law_261 (i := 21) rfl
theorem dL_law_293 : decode cL_law 293 = .ok (.iconst 2, 1) := dk_at k_dL_law_261 (i := 22) rfl
theorem dL_law_294 : decode cL_law 294 = .ok (.iadd, 1) := dk_at k_dL_law_261 (i := 23) rfl
theorem dL_law_295 : decode cL_law 295 = .ok (.iaload, 1) := dk_at k_dL_law_261 (i := 24) rfl
theorem dL_law_296 : decode cL_law 296 = .ok (.aload_n 0, 1) := dk_at k_dL_law_261 (i := 25) rfl
theorem dL_law_297 : decode cL_law 297 = .ok (.iload 4, 2) := dk_at k_dL_law_261 (i := 26) rfl
theorem dL_law_299 : decode cL_law 299 = .ok (.iconst 3, 1) := dk_at k_dL_law_261 (i := 27) rfl
theorem dL_law_300 : decode cL_law 300 = .ok (.iadd, 1) := dk_at k_dL_law_261 (i := 28) rfl
theorem dL_law_301 : decode cL_law 301 = .ok (.iaload, 1) := dk_at k_dL_law_261 (i := 29) rfl
theorem dL_law_302 : decode cL_law 302 = .ok (.aload_n 0, 1) := dk_at k_dL_law_261 (i := 30) rfl
theorem dL_law_303 : decode cL_law 303 = .ok (.iload 4, 2) := dk_at k_dL_law_261 (i := 31) rfl
theorem k_dL_law_305 : dk cL_law [(305, .iconst 4, 1), (306, .iadd, 1), (307, .iaload, 1), (308, .ifCond .eq 7, 3), (311, .iconst 1, 1), (312, .goto 4, 3), (315, .iconst 0, 1), (316, .invokevirtual 124, 3), (319, .istore 6, 2), (321, .goto 962, 3), (324, .aload_n 1, 1), (325, .aload_n 0, 1), (326, .iload 4, 2), (328, .iconst 1, 1), (329, .iadd, 1), (330, .iaload, 1), (331, .aload_n 0, 1), (332, .iload 4, 2), (334, .iconst 2, 1), (335, .iadd, 1), (336, .iaload, 1), (337, .aload_n 0, 1), (338, .iload 4, 2), (340, .iconst 3, 1), (341, .iadd, 1), (342, .iaload, 1), (343, .aload_n 0, 1), (344, .iload 4, 2), (346, .iconst 4, 1), (347, .iadd, 1), (348, .iaload, 1), (349, .aload_n 3, 1)] = true := by decide +kernel
theorem dL_law_305 : decode cL_law 305 = .ok (.iconst 4, 1) := dk_at k_dL_law_305 (i := 0) rfl
theorem dL_law_306 : decode cL_law 306 = .ok (.iadd, 1) := dk_at k_dL_law_305 (i := 1) rfl
theorem dL_law_307 : decode cL_law 307 = .ok (.iaload, 1) := dk_at k_dL_law_305 (i := 2) rfl
theorem dL_law_308 : decode cL_law 308 = .ok (.ifCond .eq 7, 3) := dk_at k_dL_law_305 (i := 3) rfl
theorem dL_law_311 : decode cL_law 311 = .ok (.iconst 1, 1) := dk_at k_dL_law_305 (i := 4) rfl
theorem dL_law_312 : decode cL_law 312 = .ok (.goto 4, 3) := dk_at k_dL_law_305 (i := 5) rfl
theorem dL_law_315 : decode cL_law 315 = .ok (.iconst 0, 1) := dk_at k_dL_law_305 (i := 6) rfl
theorem dL_law_316 : decode cL_law 316 = .ok (.invokevirtual 124, 3) := dk_at k_dL_law_305 (i := 7) rfl
theorem dL_law_319 : decode cL_law 319 = .ok (.istore 6, 2) := dk_at k_dL_law_305 (i := 8) rfl
theorem dL_law_321 : decode cL_law 321 = .ok (.goto 962, 3) := dk_at k_dL_law_305 (i := 9) rfl
theorem dL_law_324 : decode cL_law 324 = .ok (.aload_n 1, 1) := dk_at k_dL_law_305 (i := 10) rfl
theorem dL_law_325 : decode cL_law 325 = .ok (.aload_n 0, 1) := dk_at k_dL_law_305 (i := 11) rfl
theorem dL_law_326 : decode cL_law 326 = .ok (.iload 4, 2) := dk_at k_dL_law_305 (i := 12) rfl
theorem dL_law_328 : decode cL_law 328 = .ok (.iconst 1, 1) := dk_at k_dL_law_305 (i := 13) rfl
theorem dL_law_329 : decode cL_law 329 = .ok (.iadd, 1) := dk_at k_dL_law_305 (i := 14) rfl
theorem dL_law_330 : decode cL_law 330 = .ok (.iaload, 1) := dk_at k_dL_law_305 (i := 15) rfl
theorem dL_law_331 : decode cL_law 331 = .ok (.aload_n 0, 1) := dk_at k_dL_law_305 (i := 16) rfl
theorem dL_law_332 : decode cL_law 332 = .ok (.iload 4, 2) := dk_at k_dL_law_305 (i := 17) rfl
theorem dL_law_334 : decode cL_law 334 = .ok (.iconst 2, 1) := dk_at k_dL_law_305 (i := 18) rfl
theorem dL_law_335 : decode cL_law 335 = .ok (.iadd, 1) := dk_at k_dL_law_305 (i := 19) rfl
theorem dL_law_336 : decode cL_law 336 = .ok (.iaload, 1) := dk_at k_dL_law_305 (i := 20) rfl
theorem dL_law_337 : decode cL_law 337 = .ok (.aload_n 0, 1) := dk_at k_dL_law_305 (i := 21) rfl
theorem dL_law_338 : decode cL_law 338 = .ok (.iload 4, 2) := dk_at k_dL_law_305 (i := 22) rfl
theorem dL_law_340 : decode cL_law 340 = .ok (.iconst 3, 1) := dk_at k_dL_law_305 (i := 23) rfl
theorem dL_law_341 : decode cL_law 341 = .ok (.iadd, 1) := dk_at k_dL_law_305 (i := 24) rfl
theorem dL_law_342 : decode cL_law 342 = .ok (.iaload, 1) := dk_at k_dL_law_305 (i := 25) rfl
theorem dL_law_343 : decode cL_law 343 = .ok (.aload_n 0, 1) := dk_at k_dL_law_305 (i := 26) rfl
theorem dL_law_344 : decode cL_law 344 = .ok (.iload 4, 2) := dk_at k_dL_law_305 (i := 27) rfl
theorem dL_law_346 : decode cL_law 346 = .ok (.iconst 4, 1) := dk_at k_dL_law_305 (i := 28) rfl
theorem dL_law_347 : decode cL_law 347 = .ok (.iadd, 1) := dk_at k_dL_law_305 (i := 29) rfl
theorem dL_law_348 : decode cL_law 348 = .ok (.iaload, 1) := dk_at k_dL_law_305 (i := 30) rfl
theorem dL_law_349 : decode cL_law 349 = .ok (.aload_n 3, 1) := dk_at k_dL_law_305 (i := 31) rfl
theorem k_dL_law_350 : dk cL_law [(350, .invokestatic 125, 3), (353, .istore 5, 2), (355, .aload_n 2, 1), (356, .aload_n 0, 1), (357, .iload 4, 2), (359, .iconst 1, 1), (360, .iadd, 1), (361, .iaload, 1), (362, .aload_n 0, 1), (363, .iload 4, 2), (365, .iconst 2, 1), (366, .iadd, 1), (367, .iaload, 1), (368, .aload_n 0, 1), (369, .iload 4, 2), (371, .iconst 3, 1), (372, .iadd, 1), (373, .iaload, 1), (374, .aload_n 0, 1), (375, .iload 4, 2), (377, .iconst 4, 1), (378, .iadd, 1), (379, .iaload, 1), (380, .invokevirtual 128, 3), (383, .istore 6, 2), (385, .goto 898, 3), (388, .aload_n 1, 1), (389, .aload_n 0, 1), (390, .iload 4, 2), (392, .iconst 1, 1), (393, .iadd, 1), (394, .iaload, 1)] = true := by decide +kernel
theorem dL_law_350 : decode cL_law 350 = .ok (.invokestatic 125, 3) := dk_at k_dL_law_350 (i := 0) rfl
theorem dL_law_353 : decode cL_law 353 = .ok (.istore 5, 2) := dk_at k_dL_law_350 (i := 1) rfl
theorem dL_law_355 : decode cL_law 355 = .ok (.aload_n 2, 1) := dk_at k_dL_law_350 (i := 2) rfl
theorem dL_law_356 : decode cL_law 356 = .ok (.aload_n 0, 1) := dk_at k_dL_law_350 (i := 3) rfl
theorem dL_law_357 : decode cL_law 357 = .ok (.iload 4, 2) := dk_at k_dL_law_350 (i := 4) rfl
theorem dL_law_359 : decode cL_law 359 = .ok (.iconst 1, 1) := dk_at k_dL_law_350 (i := 5) rfl
theorem dL_law_360 : decode cL_law 360 = .ok (.iadd, 1) := dk_at k_dL_law_350 (i := 6) rfl
theorem dL_law_361 : decode cL_law 361 = .ok (.iaload, 1) := dk_at k_dL_law_350 (i := 7) rfl
theorem dL_law_362 : decode cL_law 362 = .ok (.aload_n 0, 1) := dk_at k_dL_law_350 (i := 8) rfl
theorem dL_law_363 : decode cL_law 363 = .ok (.iload 4, 2) := dk_at k_dL_law_350 (i := 9) rfl
theorem dL_law_365 : decode cL_law 365 = .ok (.iconst 2, 1) := dk_at k_dL_law_350 (i := 10) rfl
theorem dL_law_366 : decode cL_law 366 = .ok (.iadd, 1) := dk_at k_dL_law_350 (i := 11) rfl
theorem dL_law_367 : decode cL_law 367 = .ok (.iaload, 1) := dk_at k_dL_law_350 (i := 12) rfl
theorem dL_law_368 : decode cL_law 368 = .ok (.aload_n 0, 1) := dk_at k_dL_law_350 (i := 13) rfl
theorem dL_law_369 : decode cL_law 369 = .ok (.iload 4, 2) := dk_at k_dL_law_350 (i := 14) rfl
theorem dL_law_371 : decode cL_law 371 = .ok (.iconst 3, 1) := dk_at k_dL_law_350 (i := 15) rfl
theorem dL_law_372 : decode cL_law 372 = .ok (.iadd, 1) := dk_at k_dL_law_350 (i := 16) rfl
theorem dL_law_373 : decode cL_law 373 = .ok (.iaload, 1) := dk_at k_dL_law_350 (i := 17) rfl
theorem dL_law_374 : decode cL_law 374 = .ok (.aload_n 0, 1) := dk_at k_dL_law_350 (i := 18) rfl
theorem dL_law_375 : decode cL_law 375 = .ok (.iload 4, 2) := dk_at k_dL_law_350 (i := 19) rfl
theorem dL_law_377 : decode cL_law 377 = .ok (.iconst 4, 1) := dk_at k_dL_law_350 (i := 20) rfl
theorem dL_law_378 : decode cL_law 378 = .ok (.iadd, 1) := dk_at k_dL_law_350 (i := 21) rfl
theorem dL_law_379 : decode cL_law 379 = .ok (.iaload, 1) := dk_at k_dL_law_350 (i := 22) rfl
theorem dL_law_380 : decode cL_law 380 = .ok (.invokevirtual 128, 3) := dk_at k_dL_law_350 (i := 23) rfl
theorem dL_law_383 : decode cL_law 383 = .ok (.istore 6, 2) := dk_at k_dL_law_350 (i := 24) rfl
theorem dL_law_385 : decode cL_law 385 = .ok (.goto 898, 3) := dk_at k_dL_law_350 (i := 25) rfl
theorem dL_law_388 : decode cL_law 388 = .ok (.aload_n 1, 1) := dk_at k_dL_law_350 (i := 26) rfl
theorem dL_law_389 : decode cL_law 389 = .ok (.aload_n 0, 1) := dk_at k_dL_law_350 (i := 27) rfl
theorem dL_law_390 : decode cL_law 390 = .ok (.iload 4, 2) := dk_at k_dL_law_350 (i := 28) rfl
theorem dL_law_392 : decode cL_law 392 = .ok (.iconst 1, 1) := dk_at k_dL_law_350 (i := 29) rfl
theorem dL_law_393 : decode cL_law 393 = .ok (.iadd, 1) := dk_at k_dL_law_350 (i := 30) rfl
theorem dL_law_394 : decode cL_law 394 = .ok (.iaload, 1) := dk_at k_dL_law_350 (i := 31) rfl
theorem k_dL_law_395 : dk cL_law [(395, .aload_n 0, 1), (396, .iload 4, 2), (398, .iconst 2, 1), (399, .iadd, 1), (400, .iaload, 1), (401, .aload_n 0, 1), (402, .iload 4, 2), (404, .iconst 3, 1), (405, .iadd, 1), (406, .iaload, 1), (407, .aload_n 3, 1), (408, .invokestatic 129, 3), (411, .istore 5, 2), (413, .aload_n 2, 1), (414, .aload_n 0, 1), (415, .iload 4, 2), (417, .iconst 1, 1), (418, .iadd, 1), (419, .iaload, 1), (420, .aload_n 0, 1), (421, .iload 4, 2), (423, .iconst 2, 1), (424, .iadd, 1), (425, .iaload, 1), (426, .aload_n 0, 1), (427, .iload 4, 2), (429, .iconst 3, 1), (430, .iadd, 1), (431, .iaload, 1), (432, .invokevirtual 131, 3), (435, .istore 6, 2), (437, .goto 846, 3)] = true := by decide +kernel
theorem dL_law_395 : decode cL_law 395 = .ok (.aload_n 0, 1) := dk_at k_dL_law_395 (i := 0) rfl
theorem dL_law_396 : decode cL_law 396 = .ok (.iload 4, 2) := dk_at k_dL_law_395 (i := 1) rfl
theorem dL_law_398 : decode cL_law 398 = .ok (.iconst 2, 1) := dk_at k_dL_law_395 (i := 2) rfl
theorem dL_law_399 : decode cL_law 399 = .ok (.iadd, 1) := dk_at k_dL_law_395 (i := 3) rfl
theorem dL_law_400 : decode cL_law 400 = .ok (.iaload, 1) := dk_at k_dL_law_395 (i := 4) rfl
theorem dL_law_401 : decode cL_law 401 = .ok (.aload_n 0, 1) := dk_at k_dL_law_395 (i := 5) rfl
theorem dL_law_402 : decode cL_law 402 = .ok (.iload 4, 2) := dk_at k_dL_law_395 (i := 6) rfl
theorem dL_law_404 : decode cL_law 404 = .ok (.iconst 3, 1) := dk_at k_dL_law_395 (i := 7) rfl
theorem dL_law_405 : decode cL_law 405 = .ok (.iadd, 1) := dk_at k_dL_law_395 (i := 8) rfl
theorem dL_law_406 : decode cL_law 406 = .ok (.iaload, 1) := dk_at k_dL_law_395 (i := 9) rfl
theorem dL_law_407 : decode cL_law 407 = .ok (.aload_n 3, 1) := dk_at k_dL_law_395 (i := 10) rfl
theorem dL_law_408 : decode cL_law 408 = .ok (.invokestatic 129, 3) := dk_at k_dL_law_395 (i := 11) rfl
theorem dL_law_411 : decode cL_law 411 = .ok (.istore 5, 2) := dk_at k_dL_law_395 (i := 12) rfl
theorem dL_law_413 : decode cL_law 413 = .ok (.aload_n 2, 1) := dk_at k_dL_law_395 (i := 13) rfl
theorem dL_law_414 : decode cL_law 414 = .ok (.aload_n 0, 1) := dk_at k_dL_law_395 (i := 14) rfl
theorem dL_law_415 : decode cL_law 415 = .ok (.iload 4, 2) := dk_at k_dL_law_395 (i := 15) rfl
theorem dL_law_417 : decode cL_law 417 = .ok (.iconst 1, 1) := dk_at k_dL_law_395 (i := 16) rfl
theorem dL_law_418 : decode cL_law 418 = .ok (.iadd, 1) := dk_at k_dL_law_395 (i := 17) rfl
theorem dL_law_419 : decode cL_law 419 = .ok (.iaload, 1) := dk_at k_dL_law_395 (i := 18) rfl
theorem dL_law_420 : decode cL_law 420 = .ok (.aload_n 0, 1) := dk_at k_dL_law_395 (i := 19) rfl
theorem dL_law_421 : decode cL_law 421 = .ok (.iload 4, 2) := dk_at k_dL_law_395 (i := 20) rfl
theorem dL_law_423 : decode cL_law 423 = .ok (.iconst 2, 1) := dk_at k_dL_law_395 (i := 21) rfl
theorem dL_law_424 : decode cL_law 424 = .ok (.iadd, 1) := dk_at k_dL_law_395 (i := 22) rfl
theorem dL_law_425 : decode cL_law 425 = .ok (.iaload, 1) := dk_at k_dL_law_395 (i := 23) rfl
theorem dL_law_426 : decode cL_law 426 = .ok (.aload_n 0, 1) := dk_at k_dL_law_395 (i := 24) rfl
theorem dL_law_427 : decode cL_law 427 = .ok (.iload 4, 2) := dk_at k_dL_law_395 (i := 25) rfl
theorem dL_law_429 : decode cL_law 429 = .ok (.iconst 3, 1) := dk_at k_dL_law_395 (i := 26) rfl
theorem dL_law_430 : decode cL_law 430 = .ok (.iadd, 1) := dk_at k_dL_law_395 (i := 27) rfl
theorem dL_law_431 : decode cL_law 431 = .ok (.iaload, 1) := dk_at k_dL_law_395 (i := 28) rfl
theorem dL_law_432 : decode cL_law 432 = .ok (.invokevirtual 131, 3) := dk_at k_dL_law_395 (i := 29) rfl
theorem dL_law_435 : decode cL_law 435 = .ok (.istore 6, 2) := dk_at k_dL_law_395 (i := 30) rfl
theorem dL_law_437 : decode cL_law 437 = .ok (.goto 846, 3) := dk_at k_dL_law_395 (i := 31) rfl
theorem k_dL_law_440 : dk cL_law [(440, .aload_n 1, 1), (441, .aload_n 0, 1), (442, .iload 4, 2), (444, .iconst 1, 1), (445, .iadd, 1), (446, .iaload, 1), (447, .aload_n 0, 1), (448, .iload 4, 2), (450, .iconst 2, 1), (451, .iadd, 1), (452, .iaload, 1), (453, .aload_n 0, 1), (454, .iload 4, 2), (456, .iconst 3, 1), (457, .iadd, 1), (458, .iaload, 1), (459, .aload_n 0, 1), (460, .iload 4, 2), (462, .iconst 4, 1), (463, .iadd, 1), (464, .iaload, 1), (465, .aload_n 3, 1), (466, .invokestatic 132, 3), (469, .istore 5, 2), (471, .aload_n 2, 1), (472, .aload_n 0, 1), (473, .iload 4, 2), (475, .iconst 1, 1), (476, .iadd, 1), (477, .iaload, 1), (478, .aload_n 0, 1), (479, .iload 4, 2)] = true := by decide +kernel
theorem dL_law_440 : decode cL_law 440 = .ok (.aload_n 1, 1) := dk_at k_dL_law_440 (i := 0) rfl
theorem dL_law_441 : decode cL_law 441 = .ok (.aload_n 0, 1) := dk_at k_dL_law_440 (i := 1) rfl
theorem dL_law_442 : decode cL_law 442 = .ok (.iload 4, 2) := dk_at k_dL_law_440 (i := 2) rfl
theorem dL_law_444 : decode cL_law 444 = .ok (.iconst 1, 1) := dk_at k_dL_law_440 (i := 3) rfl
theorem dL_law_445 : decode cL_law 445 = .ok (.iadd, 1) := dk_at k_dL_law_440 (i := 4) rfl
theorem dL_law_446 : decode cL_law 446 = .ok (.iaload, 1) := dk_at k_dL_law_440 (i := 5) rfl
theorem dL_law_447 : decode cL_law 447 = .ok (.aload_n 0, 1) := dk_at k_dL_law_440 (i := 6) rfl
theorem dL_law_448 : decode cL_law 448 = .ok (.iload 4, 2) := dk_at k_dL_law_440 (i := 7) rfl
theorem dL_law_450 : decode cL_law 450 = .ok (.iconst 2, 1) := dk_at k_dL_law_440 (i := 8) rfl
theorem dL_law_451 : decode cL_law 451 = .ok (.iadd, 1) := dk_at k_dL_law_440 (i := 9) rfl
theorem dL_law_452 : decode cL_law 452 = .ok (.iaload, 1) := dk_at k_dL_law_440 (i := 10) rfl
theorem dL_law_453 : decode cL_law 453 = .ok (.aload_n 0, 1) := dk_at k_dL_law_440 (i := 11) rfl
theorem dL_law_454 : decode cL_law 454 = .ok (.iload 4, 2) := dk_at k_dL_law_440 (i := 12) rfl
theorem dL_law_456 : decode cL_law 456 = .ok (.iconst 3, 1) := dk_at k_dL_law_440 (i := 13) rfl
theorem dL_law_457 : decode cL_law 457 = .ok (.iadd, 1) := dk_at k_dL_law_440 (i := 14) rfl
theorem dL_law_458 : decode cL_law 458 = .ok (.iaload, 1) := dk_at k_dL_law_440 (i := 15) rfl
theorem dL_law_459 : decode cL_law 459 = .ok (.aload_n 0, 1) := dk_at k_dL_law_440 (i := 16) rfl
theorem dL_law_460 : decode cL_law 460 = .ok (.iload 4, 2) := dk_at k_dL_law_440 (i := 17) rfl
theorem dL_law_462 : decode cL_law 462 = .ok (.iconst 4, 1) := dk_at k_dL_law_440 (i := 18) rfl
theorem dL_law_463 : decode cL_law 463 = .ok (.iadd, 1) := dk_at k_dL_law_440 (i := 19) rfl
theorem dL_law_464 : decode cL_law 464 = .ok (.iaload, 1) := dk_at k_dL_law_440 (i := 20) rfl
theorem dL_law_465 : decode cL_law 465 = .ok (.aload_n 3, 1) := dk_at k_dL_law_440 (i := 21) rfl
theorem dL_law_466 : decode cL_law 466 = .ok (.invokestatic 132, 3) := dk_at k_dL_law_440 (i := 22) rfl
theorem dL_law_469 : decode cL_law 469 = .ok (.istore 5, 2) := dk_at k_dL_law_440 (i := 23) rfl
theorem dL_law_471 : decode cL_law 471 = .ok (.aload_n 2, 1) := dk_at k_dL_law_440 (i := 24) rfl
theorem dL_law_472 : decode cL_law 472 = .ok (.aload_n 0, 1) := dk_at k_dL_law_440 (i := 25) rfl
theorem dL_law_473 : decode cL_law 473 = .ok (.iload 4, 2) := dk_at k_dL_law_440 (i := 26) rfl
theorem dL_law_475 : decode cL_law 475 = .ok (.iconst 1, 1) := dk_at k_dL_law_440 (i := 27) rfl
theorem dL_law_476 : decode cL_law 476 = .ok (.iadd, 1) := dk_at k_dL_law_440 (i := 28) rfl
theorem dL_law_477 : decode cL_law 477 = .ok (.iaload, 1) := dk_at k_dL_law_440 (i := 29) rfl
theorem dL_law_478 : decode cL_law 478 = .ok (.aload_n 0, 1) := dk_at k_dL_law_440 (i := 30) rfl
theorem dL_law_479 : decode cL_law 479 = .ok (.iload 4, 2) := dk_at k_dL_law_440 (i := 31) rfl
theorem k_dL_law_481 : dk cL_law [(481, .iconst 2, 1), (482, .iadd, 1), (483, .iaload, 1), (484, .aload_n 0, 1), (485, .iload 4, 2), (487, .iconst 3, 1), (488, .iadd, 1), (489, .iaload, 1), (490, .aload_n 0, 1), (491, .iload 4, 2), (493, .iconst 4, 1), (494, .iadd, 1), (495, .iaload, 1), (496, .invokevirtual 134, 3), (499, .istore 6, 2), (501, .goto 782, 3), (504, .aload_n 1, 1), (505, .aload_n 0, 1), (506, .iload 4, 2), (508, .iconst 1, 1), (509, .iadd, 1), (510, .iaload, 1), (511, .aload_n 0, 1), (512, .iload 4, 2), (514, .iconst 2, 1), (515, .iadd, 1), (516, .iaload, 1), (517, .ifCond .eq 7, 3), (520, .iconst 1, 1), (521, .goto 4, 3), (524, .iconst 0, 1), (525, .aload_n 3, 1)] = true := by decide +kernel
theorem dL_law_481 : decode cL_law 481 = .ok (.iconst 2, 1) := dk_at k_dL_law_481 (i := 0) rfl
theorem dL_law_482 : decode cL_law 482 = .ok (.iadd, 1) := dk_at k_dL_law_481 (i := 1) rfl
theorem dL_law_483 : decode cL_law 483 = .ok (.iaload, 1) := dk_at k_dL_law_481 (i := 2) rfl
theorem dL_law_484 : decode cL_law 484 = .ok (.aload_n 0, 1) := dk_at k_dL_law_481 (i := 3) rfl
theorem dL_law_485 : decode cL_law 485 = .ok (.iload 4, 2) := dk_at k_dL_law_481 (i := 4) rfl
theorem dL_law_487 : decode cL_law 487 = .ok (.iconst 3, 1) := dk_at k_dL_law_481 (i := 5) rfl
theorem dL_law_488 : decode cL_law 488 = .ok (.iadd, 1) := dk_at k_dL_law_481 (i := 6) rfl
theorem dL_law_489 : decode cL_law 489 = .ok (.iaload, 1) := dk_at k_dL_law_481 (i := 7) rfl
theorem dL_law_490 : decode cL_law 490 = .ok (.aload_n 0, 1) := dk_at k_dL_law_481 (i := 8) rfl
theorem dL_law_491 : decode cL_law 491 = .ok (.iload 4, 2) := dk_at k_dL_law_481 (i := 9) rfl
theorem dL_law_493 : decode cL_law 493 = .ok (.iconst 4, 1) := dk_at k_dL_law_481 (i := 10) rfl
theorem dL_law_494 : decode cL_law 494 = .ok (.iadd, 1) := dk_at k_dL_law_481 (i := 11) rfl
theorem dL_law_495 : decode cL_law 495 = .ok (.iaload, 1) := dk_at k_dL_law_481 (i := 12) rfl
theorem dL_law_496 : decode cL_law 496 = .ok (.invokevirtual 134, 3) := dk_at k_dL_law_481 (i := 13) rfl
theorem dL_law_499 : decode cL_law 499 = .ok (.istore 6, 2) := dk_at k_dL_law_481 (i := 14) rfl
theorem dL_law_501 : decode cL_law 501 = .ok (.goto 782, 3) := dk_at k_dL_law_481 (i := 15) rfl
theorem dL_law_504 : decode cL_law 504 = .ok (.aload_n 1, 1) := dk_at k_dL_law_481 (i := 16) rfl
theorem dL_law_505 : decode cL_law 505 = .ok (.aload_n 0, 1) := dk_at k_dL_law_481 (i := 17) rfl
theorem dL_law_506 : decode cL_law 506 = .ok (.iload 4, 2) := dk_at k_dL_law_481 (i := 18) rfl
theorem dL_law_508 : decode cL_law 508 = .ok (.iconst 1, 1) := dk_at k_dL_law_481 (i := 19) rfl
theorem dL_law_509 : decode cL_law 509 = .ok (.iadd, 1) := dk_at k_dL_law_481 (i := 20) rfl
theorem dL_law_510 : decode cL_law 510 = .ok (.iaload, 1) := dk_at k_dL_law_481 (i := 21) rfl
theorem dL_law_511 : decode cL_law 511 = .ok (.aload_n 0, 1) := dk_at k_dL_law_481 (i := 22) rfl
theorem dL_law_512 : decode cL_law 512 = .ok (.iload 4, 2) := dk_at k_dL_law_481 (i := 23) rfl
theorem dL_law_514 : decode cL_law 514 = .ok (.iconst 2, 1) := dk_at k_dL_law_481 (i := 24) rfl
theorem dL_law_515 : decode cL_law 515 = .ok (.iadd, 1) := dk_at k_dL_law_481 (i := 25) rfl
theorem dL_law_516 : decode cL_law 516 = .ok (.iaload, 1) := dk_at k_dL_law_481 (i := 26) rfl
theorem dL_law_517 : decode cL_law 517 = .ok (.ifCond .eq 7, 3) := dk_at k_dL_law_481 (i := 27) rfl
theorem dL_law_520 : decode cL_law 520 = .ok (.iconst 1, 1) := dk_at k_dL_law_481 (i := 28) rfl
theorem dL_law_521 : decode cL_law 521 = .ok (.goto 4, 3) := dk_at k_dL_law_481 (i := 29) rfl
theorem dL_law_524 : decode cL_law 524 = .ok (.iconst 0, 1) := dk_at k_dL_law_481 (i := 30) rfl
theorem dL_law_525 : decode cL_law 525 = .ok (.aload_n 3, 1) := dk_at k_dL_law_481 (i := 31) rfl
theorem k_dL_law_526 : dk cL_law [(526, .invokestatic 135, 3), (529, .istore 5, 2), (531, .aload_n 2, 1), (532, .aload_n 0, 1), (533, .iload 4, 2), (535, .iconst 1, 1), (536, .iadd, 1), (537, .iaload, 1), (538, .aload_n 0, 1), (539, .iload 4, 2), (541, .iconst 2, 1), (542, .iadd, 1), (543, .iaload, 1), (544, .ifCond .eq 7, 3), (547, .iconst 1, 1), (548, .goto 4, 3), (551, .iconst 0, 1), (552, .invokevirtual 138, 3), (555, .istore 6, 2), (557, .aload_n 2, 1), (558, .invokevirtual 139, 3), (561, .iload 5, 2), (563, .if_icmp .eq 5, 3), (566, .iconst 0, 1), (567, .ireturn, 1), (568, .iload 5, 2), (570, .ifCond .ne 23, 3), (573, .aload_n 3, 1), (574, .getfield 13, 3), (577, .iload 6, 2), (579, .ifCond .eq 7, 3), (582, .lconst 1, 1)] = true := by decide +kernel
theorem dL_law_526 : decode cL_law 526 = .ok (.invokestatic 135, 3) := dk_at k_dL_law_526 (i := 0) rfl
theorem dL_law_529 : decode cL_law 529 = .ok (.istore 5, 2) := dk_at k_dL_law_526 (i := 1) rfl
theorem dL_law_531 : decode cL_law 531 = .ok (.aload_n 2, 1) := dk_at k_dL_law_526 (i := 2) rfl
theorem dL_law_532 : decode cL_law 532 = .ok (.aload_n 0, 1) := dk_at k_dL_law_526 (i := 3) rfl
theorem dL_law_533 : decode cL_law 533 = .ok (.iload 4, 2) := dk_at k_dL_law_526 (i := 4) rfl
theorem dL_law_535 : decode cL_law 535 = .ok (.iconst 1, 1) := dk_at k_dL_law_526 (i := 5) rfl
theorem dL_law_536 : decode cL_law 536 = .ok (.iadd, 1) := dk_at k_dL_law_526 (i := 6) rfl
theorem dL_law_537 : decode cL_law 537 = .ok (.iaload, 1) := dk_at k_dL_law_526 (i := 7) rfl
theorem dL_law_538 : decode cL_law 538 = .ok (.aload_n 0, 1) := dk_at k_dL_law_526 (i := 8) rfl
theorem dL_law_539 : decode cL_law 539 = .ok (.iload 4, 2) := dk_at k_dL_law_526 (i := 9) rfl
theorem dL_law_541 : decode cL_law 541 = .ok (.iconst 2, 1) := dk_at k_dL_law_526 (i := 10) rfl
theorem dL_law_542 : decode cL_law 542 = .ok (.iadd, 1) := dk_at k_dL_law_526 (i := 11) rfl
theorem dL_law_543 : decode cL_law 543 = .ok (.iaload, 1) := dk_at k_dL_law_526 (i := 12) rfl
theorem dL_law_544 : decode cL_law 544 = .ok (.ifCond .eq 7, 3) := dk_at k_dL_law_526 (i := 13) rfl
theorem dL_law_547 : decode cL_law 547 = .ok (.iconst 1, 1) := dk_at k_dL_law_526 (i := 14) rfl
theorem dL_law_548 : decode cL_law 548 = .ok (.goto 4, 3) := dk_at k_dL_law_526 (i := 15) rfl
theorem dL_law_551 : decode cL_law 551 = .ok (.iconst 0, 1) := dk_at k_dL_law_526 (i := 16) rfl
theorem dL_law_552 : decode cL_law 552 = .ok (.invokevirtual 138, 3) := dk_at k_dL_law_526 (i := 17) rfl
theorem dL_law_555 : decode cL_law 555 = .ok (.istore 6, 2) := dk_at k_dL_law_526 (i := 18) rfl
theorem dL_law_557 : decode cL_law 557 = .ok (.aload_n 2, 1) := dk_at k_dL_law_526 (i := 19) rfl
theorem dL_law_558 : decode cL_law 558 = .ok (.invokevirtual 139, 3) := dk_at k_dL_law_526 (i := 20) rfl
theorem dL_law_561 : decode cL_law 561 = .ok (.iload 5, 2) := dk_at k_dL_law_526 (i := 21) rfl
theorem dL_law_563 : decode cL_law 563 = .ok (.if_icmp .eq 5, 3) := dk_at k_dL_law_526 (i := 22) rfl
theorem dL_law_566 : decode cL_law 566 = .ok (.iconst 0, 1) := dk_at k_dL_law_526 (i := 23) rfl
theorem dL_law_567 : decode cL_law 567 = .ok (.ireturn, 1) := dk_at k_dL_law_526 (i := 24) rfl
theorem dL_law_568 : decode cL_law 568 = .ok (.iload 5, 2) := dk_at k_dL_law_526 (i := 25) rfl
theorem dL_law_570 : decode cL_law 570 = .ok (.ifCond .ne 23, 3) := dk_at k_dL_law_526 (i := 26) rfl
theorem dL_law_573 : decode cL_law 573 = .ok (.aload_n 3, 1) := dk_at k_dL_law_526 (i := 27) rfl
theorem dL_law_574 : decode cL_law 574 = .ok (.getfield 13, 3) := dk_at k_dL_law_526 (i := 28) rfl
theorem dL_law_577 : decode cL_law 577 = .ok (.iload 6, 2) := dk_at k_dL_law_526 (i := 29) rfl
theorem dL_law_579 : decode cL_law 579 = .ok (.ifCond .eq 7, 3) := dk_at k_dL_law_526 (i := 30) rfl
theorem dL_law_582 : decode cL_law 582 = .ok (.lconst 1, 1) := dk_at k_dL_law_526 (i := 31) rfl
theorem k_dL_law_583 : dk cL_law [(583, .goto 4, 3), (586, .lconst 0, 1), (587, .lcmp, 1), (588, .ifCond .eq 5, 3), (591, .iconst 0, 1), (592, .ireturn, 1), (593, .goto 690, 3), (596, .aload_n 1, 1), (597, .aload_n 0, 1), (598, .iload 4, 2), (600, .iconst 1, 1), (601, .iadd, 1), (602, .iaload, 1), (603, .aload_n 0, 1), (604, .iload 4, 2), (606, .iconst 2, 1), (607, .iadd, 1), (608, .iaload, 1), (609, .ifCond .eq 7, 3), (612, .iconst 1, 1), (613, .goto 4, 3), (616, .iconst 0, 1), (617, .aload_n 3, 1), (618, .invokestatic 142, 3), (621, .istore 5, 2), (623, .aload_n 2, 1), (624, .aload_n 0, 1), (625, .iload 4, 2), (627, .iconst 1, 1), (628, .iadd, 1), (629, .iaload, 1), (630, .aload_n 0, 1)] = true := by decide +kernel
theorem dL_law_583 : decode cL_law 583 = .ok (.goto 4, 3) := dk_at k_dL_law_583 (i := 0) rfl
theorem dL_law_586 : decode cL_law 586 = .ok (.lconst 0, 1) := dk_at k_dL_law_583 (i := 1) rfl
theorem dL_law_587 : decode cL_law 587 = .ok (.lcmp, 1) := dk_at k_dL_law_583 (i := 2) rfl
theorem dL_law_588 : decode cL_law 588 = .ok (.ifCond .eq 5, 3) := dk_at k_dL_law_583 (i := 3) rfl
theorem dL_law_591 : decode cL_law 591 = .ok (.iconst 0, 1) := dk_at k_dL_law_583 (i := 4) rfl
theorem dL_law_592 : decode cL_law 592 = .ok (.ireturn, 1) := dk_at k_dL_law_583 (i := 5) rfl
theorem dL_law_593 : decode cL_law 593 = .ok (.goto 690, 3) := dk_at k_dL_law_583 (i := 6) rfl
theorem dL_law_596 : decode cL_law 596 = .ok (.aload_n 1, 1) := dk_at k_dL_law_583 (i := 7) rfl
theorem dL_law_597 : decode cL_law 597 = .ok (.aload_n 0, 1) := dk_at k_dL_law_583 (i := 8) rfl
theorem dL_law_598 : decode cL_law 598 = .ok (.iload 4, 2) := dk_at k_dL_law_583 (i := 9) rfl
theorem dL_law_600 : decode cL_law 600 = .ok (.iconst 1, 1) := dk_at k_dL_law_583 (i := 10) rfl
theorem dL_law_601 : decode cL_law 601 = .ok (.iadd, 1) := dk_at k_dL_law_583 (i := 11) rfl
theorem dL_law_602 : decode cL_law 602 = .ok (.iaload, 1) := dk_at k_dL_law_583 (i := 12) rfl
theorem dL_law_603 : decode cL_law 603 = .ok (.aload_n 0, 1) := dk_at k_dL_law_583 (i := 13) rfl
theorem dL_law_604 : decode cL_law 604 = .ok (.iload 4, 2) := dk_at k_dL_law_583 (i := 14) rfl
theorem dL_law_606 : decode cL_law 606 = .ok (.iconst 2, 1) := dk_at k_dL_law_583 (i := 15) rfl
theorem dL_law_607 : decode cL_law 607 = .ok (.iadd, 1) := dk_at k_dL_law_583 (i := 16) rfl
theorem dL_law_608 : decode cL_law 608 = .ok (.iaload, 1) := dk_at k_dL_law_583 (i := 17) rfl
theorem dL_law_609 : decode cL_law 609 = .ok (.ifCond .eq 7, 3) := dk_at k_dL_law_583 (i := 18) rfl
theorem dL_law_612 : decode cL_law 612 = .ok (.iconst 1, 1) := dk_at k_dL_law_583 (i := 19) rfl
theorem dL_law_613 : decode cL_law 613 = .ok (.goto 4, 3) := dk_at k_dL_law_583 (i := 20) rfl
theorem dL_law_616 : decode cL_law 616 = .ok (.iconst 0, 1) := dk_at k_dL_law_583 (i := 21) rfl
theorem dL_law_617 : decode cL_law 617 = .ok (.aload_n 3, 1) := dk_at k_dL_law_583 (i := 22) rfl
theorem dL_law_618 : decode cL_law 618 = .ok (.invokestatic 142, 3) := dk_at k_dL_law_583 (i := 23) rfl
theorem dL_law_621 : decode cL_law 621 = .ok (.istore 5, 2) := dk_at k_dL_law_583 (i := 24) rfl
theorem dL_law_623 : decode cL_law 623 = .ok (.aload_n 2, 1) := dk_at k_dL_law_583 (i := 25) rfl
theorem dL_law_624 : decode cL_law 624 = .ok (.aload_n 0, 1) := dk_at k_dL_law_583 (i := 26) rfl
theorem dL_law_625 : decode cL_law 625 = .ok (.iload 4, 2) := dk_at k_dL_law_583 (i := 27) rfl
theorem dL_law_627 : decode cL_law 627 = .ok (.iconst 1, 1) := dk_at k_dL_law_583 (i := 28) rfl
theorem dL_law_628 : decode cL_law 628 = .ok (.iadd, 1) := dk_at k_dL_law_583 (i := 29) rfl
theorem dL_law_629 : decode cL_law 629 = .ok (.iaload, 1) := dk_at k_dL_law_583 (i := 30) rfl
theorem dL_law_630 : decode cL_law 630 = .ok (.aload_n 0, 1) := dk_at k_dL_law_583 (i := 31) rfl
theorem k_dL_law_631 : dk cL_law [(631, .iload 4, 2), (633, .iconst 2, 1), (634, .iadd, 1), (635, .iaload, 1), (636, .ifCond .eq 7, 3), (639, .iconst 1, 1), (640, .goto 4, 3), (643, .iconst 0, 1), (644, .invokevirtual 144, 3), (647, .istore 6, 2), (649, .goto 634, 3), (652, .aload_n 1, 1), (653, .aload_n 0, 1), (654, .iload 4, 2), (656, .iconst 1, 1), (657, .iadd, 1), (658, .iaload, 1), (659, .aload_n 0, 1), (660, .iload 4, 2), (662, .iconst 2, 1), (663, .iadd, 1), (664, .iaload, 1), (665, .aload_n 3, 1), (666, .invokestatic 145, 3), (669, .istore 5, 2), (671, .aload_n 2, 1), (672, .aload_n 0, 1), (673, .iload 4, 2), (675, .iconst 1, 1), (676, .iadd, 1), (677, .iaload, 1), (678, .aload_n 0, 1)] = true := by decide +kernel
theorem dL_law_631 : decode cL_law 631 = .ok (.iload 4, 2) := dk_at k_dL_law_631 (i := 0) rfl
theorem dL_law_633 : decode cL_law 633 = .ok (.iconst 2, 1) := dk_at k_dL_law_631 (i := 1) rfl
theorem dL_law_634 : decode cL_law 634 = .ok (.iadd, 1) := dk_at k_dL_law_631 (i := 2) rfl
theorem dL_law_635 : decode cL_law 635 = .ok (.iaload, 1) := dk_at k_dL_law_631 (i := 3) rfl
theorem dL_law_636 : decode cL_law 636 = .ok (.ifCond .eq 7, 3) := dk_at k_dL_law_631 (i := 4) rfl
theorem dL_law_639 : decode cL_law 639 = .ok (.iconst 1, 1) := dk_at k_dL_law_631 (i := 5) rfl
theorem dL_law_640 : decode cL_law 640 = .ok (.goto 4, 3) := dk_at k_dL_law_631 (i := 6) rfl
theorem dL_law_643 : decode cL_law 643 = .ok (.iconst 0, 1) := dk_at k_dL_law_631 (i := 7) rfl
theorem dL_law_644 : decode cL_law 644 = .ok (.invokevirtual 144, 3) := dk_at k_dL_law_631 (i := 8) rfl
theorem dL_law_647 : decode cL_law 647 = .ok (.istore 6, 2) := dk_at k_dL_law_631 (i := 9) rfl
theorem dL_law_649 : decode cL_law 649 = .ok (.goto 634, 3) := dk_at k_dL_law_631 (i := 10) rfl
theorem dL_law_652 : decode cL_law 652 = .ok (.aload_n 1, 1) := dk_at k_dL_law_631 (i := 11) rfl
theorem dL_law_653 : decode cL_law 653 = .ok (.aload_n 0, 1) := dk_at k_dL_law_631 (i := 12) rfl
theorem dL_law_654 : decode cL_law 654 = .ok (.iload 4, 2) := dk_at k_dL_law_631 (i := 13) rfl
theorem dL_law_656 : decode cL_law 656 = .ok (.iconst 1, 1) := dk_at k_dL_law_631 (i := 14) rfl
theorem dL_law_657 : decode cL_law 657 = .ok (.iadd, 1) := dk_at k_dL_law_631 (i := 15) rfl
theorem dL_law_658 : decode cL_law 658 = .ok (.iaload, 1) := dk_at k_dL_law_631 (i := 16) rfl
theorem dL_law_659 : decode cL_law 659 = .ok (.aload_n 0, 1) := dk_at k_dL_law_631 (i := 17) rfl
theorem dL_law_660 : decode cL_law 660 = .ok (.iload 4, 2) := dk_at k_dL_law_631 (i := 18) rfl
theorem dL_law_662 : decode cL_law 662 = .ok (.iconst 2, 1) := dk_at k_dL_law_631 (i := 19) rfl
theorem dL_law_663 : decode cL_law 663 = .ok (.iadd, 1) := dk_at k_dL_law_631 (i := 20) rfl
theorem dL_law_664 : decode cL_law 664 = .ok (.iaload, 1) := dk_at k_dL_law_631 (i := 21) rfl
theorem dL_law_665 : decode cL_law 665 = .ok (.aload_n 3, 1) := dk_at k_dL_law_631 (i := 22) rfl
theorem dL_law_666 : decode cL_law 666 = .ok (.invokestatic 145, 3) := dk_at k_dL_law_631 (i := 23) rfl
theorem dL_law_669 : decode cL_law 669 = .ok (.istore 5, 2) := dk_at k_dL_law_631 (i := 24) rfl
theorem dL_law_671 : decode cL_law 671 = .ok (.aload_n 2, 1) := dk_at k_dL_law_631 (i := 25) rfl
theorem dL_law_672 : decode cL_law 672 = .ok (.aload_n 0, 1) := dk_at k_dL_law_631 (i := 26) rfl
theorem dL_law_673 : decode cL_law 673 = .ok (.iload 4, 2) := dk_at k_dL_law_631 (i := 27) rfl
theorem dL_law_675 : decode cL_law 675 = .ok (.iconst 1, 1) := dk_at k_dL_law_631 (i := 28) rfl
theorem dL_law_676 : decode cL_law 676 = .ok (.iadd, 1) := dk_at k_dL_law_631 (i := 29) rfl
theorem dL_law_677 : decode cL_law 677 = .ok (.iaload, 1) := dk_at k_dL_law_631 (i := 30) rfl
theorem dL_law_678 : decode cL_law 678 = .ok (.aload_n 0, 1) := dk_at k_dL_law_631 (i := 31) rfl
theorem k_dL_law_679 : dk cL_law [(679, .iload 4, 2), (681, .iconst 2, 1), (682, .iadd, 1), (683, .iaload, 1), (684, .invokevirtual 148, 3), (687, .istore 6, 2), (689, .goto 594, 3), (692, .aload_n 1, 1), (693, .aload_n 3, 1), (694, .invokestatic 149, 3), (697, .istore 5, 2), (699, .aload_n 2, 1), (700, .invokevirtual 152, 3), (703, .istore 6, 2), (705, .goto 578, 3), (708, .aload_n 1, 1), (709, .aload_n 0, 1), (710, .iload 4, 2), (712, .iconst 1, 1), (713, .iadd, 1), (714, .iaload, 1), (715, .aload_n 0, 1), (716, .iload 4, 2), (718, .iconst 2, 1), (719, .iadd, 1), (720, .iaload, 1), (721, .aload_n 3, 1), (722, .invokestatic 153, 3), (725, .istore 5, 2), (727, .aload_n 2, 1), (728, .aload_n 0, 1), (729, .iload 4, 2)] = true := by decide +kernel
theorem dL_law_679 : decode cL_law 679 = .ok (.iload 4, 2) := dk_at k_dL_law_679 (i := 0) rfl
theorem dL_law_681 : decode cL_law 681 = .ok (.iconst 2, 1) := dk_at k_dL_law_679 (i := 1) rfl
theorem dL_law_682 : decode cL_law 682 = .ok (.iadd, 1) := dk_at k_dL_law_679 (i := 2) rfl
theorem dL_law_683 : decode cL_law 683 = .ok (.iaload, 1) := dk_at k_dL_law_679 (i := 3) rfl
theorem dL_law_684 : decode cL_law 684 = .ok (.invokevirtual 148, 3) := dk_at k_dL_law_679 (i := 4) rfl
theorem dL_law_687 : decode cL_law 687 = .ok (.istore 6, 2) := dk_at k_dL_law_679 (i := 5) rfl
theorem dL_law_689 : decode cL_law 689 = .ok (.goto 594, 3) := dk_at k_dL_law_679 (i := 6) rfl
theorem dL_law_692 : decode cL_law 692 = .ok (.aload_n 1, 1) := dk_at k_dL_law_679 (i := 7) rfl
theorem dL_law_693 : decode cL_law 693 = .ok (.aload_n 3, 1) := dk_at k_dL_law_679 (i := 8) rfl
theorem dL_law_694 : decode cL_law 694 = .ok (.invokestatic 149, 3) := dk_at k_dL_law_679 (i := 9) rfl
theorem dL_law_697 : decode cL_law 697 = .ok (.istore 5, 2) := dk_at k_dL_law_679 (i := 10) rfl
theorem dL_law_699 : decode cL_law 699 = .ok (.aload_n 2, 1) := dk_at k_dL_law_679 (i := 11) rfl
theorem dL_law_700 : decode cL_law 700 = .ok (.invokevirtual 152, 3) := dk_at k_dL_law_679 (i := 12) rfl
theorem dL_law_703 : decode cL_law 703 = .ok (.istore 6, 2) := dk_at k_dL_law_679 (i := 13) rfl
theorem dL_law_705 : decode cL_law 705 = .ok (.goto 578, 3) := dk_at k_dL_law_679 (i := 14) rfl
theorem dL_law_708 : decode cL_law 708 = .ok (.aload_n 1, 1) := dk_at k_dL_law_679 (i := 15) rfl
theorem dL_law_709 : decode cL_law 709 = .ok (.aload_n 0, 1) := dk_at k_dL_law_679 (i := 16) rfl
theorem dL_law_710 : decode cL_law 710 = .ok (.iload 4, 2) := dk_at k_dL_law_679 (i := 17) rfl
theorem dL_law_712 : decode cL_law 712 = .ok (.iconst 1, 1) := dk_at k_dL_law_679 (i := 18) rfl
theorem dL_law_713 : decode cL_law 713 = .ok (.iadd, 1) := dk_at k_dL_law_679 (i := 19) rfl
theorem dL_law_714 : decode cL_law 714 = .ok (.iaload, 1) := dk_at k_dL_law_679 (i := 20) rfl
theorem dL_law_715 : decode cL_law 715 = .ok (.aload_n 0, 1) := dk_at k_dL_law_679 (i := 21) rfl
theorem dL_law_716 : decode cL_law 716 = .ok (.iload 4, 2) := dk_at k_dL_law_679 (i := 22) rfl
theorem dL_law_718 : decode cL_law 718 = .ok (.iconst 2, 1) := dk_at k_dL_law_679 (i := 23) rfl
theorem dL_law_719 : decode cL_law 719 = .ok (.iadd, 1) := dk_at k_dL_law_679 (i := 24) rfl
theorem dL_law_720 : decode cL_law 720 = .ok (.iaload, 1) := dk_at k_dL_law_679 (i := 25) rfl
theorem dL_law_721 : decode cL_law 721 = .ok (.aload_n 3, 1) := dk_at k_dL_law_679 (i := 26) rfl
theorem dL_law_722 : decode cL_law 722 = .ok (.invokestatic 153, 3) := dk_at k_dL_law_679 (i := 27) rfl
theorem dL_law_725 : decode cL_law 725 = .ok (.istore 5, 2) := dk_at k_dL_law_679 (i := 28) rfl
theorem dL_law_727 : decode cL_law 727 = .ok (.aload_n 2, 1) := dk_at k_dL_law_679 (i := 29) rfl
theorem dL_law_728 : decode cL_law 728 = .ok (.aload_n 0, 1) := dk_at k_dL_law_679 (i := 30) rfl
theorem dL_law_729 : decode cL_law 729 = .ok (.iload 4, 2) := dk_at k_dL_law_679 (i := 31) rfl
theorem k_dL_law_731 : dk cL_law [(731, .iconst 1, 1), (732, .iadd, 1), (733, .iaload, 1), (734, .aload_n 0, 1), (735, .iload 4, 2), (737, .iconst 2, 1), (738, .iadd, 1), (739, .iaload, 1), (740, .invokevirtual 155, 3), (743, .istore 6, 2), (745, .goto 538, 3), (748, .aload_n 1, 1), (749, .aload_n 0, 1), (750, .iload 4, 2), (752, .iconst 1, 1), (753, .iadd, 1), (754, .iaload, 1), (755, .aload_n 0, 1), (756, .iload 4, 2), (758, .iconst 2, 1), (759, .iadd, 1), (760, .iaload, 1), (761, .aload_n 0, 1), (762, .iload 4, 2), (764, .iconst 3, 1), (765, .iadd, 1), (766, .iaload, 1), (767, .aload_n 3, 1), (768, .invokestatic 156, 3), (771, .istore 5, 2), (773, .aload_n 2, 1), (774, .aload_n 0, 1)] = true := by decide +kernel
theorem dL_law_731 : decode cL_law 731 = .ok (.iconst 1, 1) := dk_at k_dL_law_731 (i := 0) rfl
theorem dL_law_732 : decode cL_law 732 = .ok (.iadd, 1) := dk_at k_dL_law_731 (i := 1) rfl
theorem dL_law_733 : decode cL_law 733 = .ok (.iaload, 1) := dk_at k_dL_law_731 (i := 2) rfl
theorem dL_law_734 : decode cL_law 734 = .ok (.aload_n 0, 1) := dk_at k_dL_law_731 (i := 3) rfl
theorem dL_law_735 : decode cL_law 735 = .ok (.iload 4, 2) := dk_at k_dL_law_731 (i := 4) rfl
theorem dL_law_737 : decode cL_law 737 = .ok (.iconst 2, 1) := dk_at k_dL_law_731 (i := 5) rfl
theorem dL_law_738 : decode cL_law 738 = .ok (.iadd, 1) := dk_at k_dL_law_731 (i := 6) rfl
theorem dL_law_739 : decode cL_law 739 = .ok (.iaload, 1) := dk_at k_dL_law_731 (i := 7) rfl
theorem dL_law_740 : decode cL_law 740 = .ok (.invokevirtual 155, 3) := dk_at k_dL_law_731 (i := 8) rfl
theorem dL_law_743 : decode cL_law 743 = .ok (.istore 6, 2) := dk_at k_dL_law_731 (i := 9) rfl
theorem dL_law_745 : decode cL_law 745 = .ok (.goto 538, 3) := dk_at k_dL_law_731 (i := 10) rfl
theorem dL_law_748 : decode cL_law 748 = .ok (.aload_n 1, 1) := dk_at k_dL_law_731 (i := 11) rfl
theorem dL_law_749 : decode cL_law 749 = .ok (.aload_n 0, 1) := dk_at k_dL_law_731 (i := 12) rfl
theorem dL_law_750 : decode cL_law 750 = .ok (.iload 4, 2) := dk_at k_dL_law_731 (i := 13) rfl
theorem dL_law_752 : decode cL_law 752 = .ok (.iconst 1, 1) := dk_at k_dL_law_731 (i := 14) rfl
theorem dL_law_753 : decode cL_law 753 = .ok (.iadd, 1) := dk_at k_dL_law_731 (i := 15) rfl
theorem dL_law_754 : decode cL_law 754 = .ok (.iaload, 1) := dk_at k_dL_law_731 (i := 16) rfl
theorem dL_law_755 : decode cL_law 755 = .ok (.aload_n 0, 1) := dk_at k_dL_law_731 (i := 17) rfl
theorem dL_law_756 : decode cL_law 756 = .ok (.iload 4, 2) := dk_at k_dL_law_731 (i := 18) rfl
theorem dL_law_758 : decode cL_law 758 = .ok (.iconst 2, 1) := dk_at k_dL_law_731 (i := 19) rfl
theorem dL_law_759 : decode cL_law 759 = .ok (.iadd, 1) := dk_at k_dL_law_731 (i := 20) rfl
theorem dL_law_760 : decode cL_law 760 = .ok (.iaload, 1) := dk_at k_dL_law_731 (i := 21) rfl
theorem dL_law_761 : decode cL_law 761 = .ok (.aload_n 0, 1) := dk_at k_dL_law_731 (i := 22) rfl
theorem dL_law_762 : decode cL_law 762 = .ok (.iload 4, 2) := dk_at k_dL_law_731 (i := 23) rfl
theorem dL_law_764 : decode cL_law 764 = .ok (.iconst 3, 1) := dk_at k_dL_law_731 (i := 24) rfl
theorem dL_law_765 : decode cL_law 765 = .ok (.iadd, 1) := dk_at k_dL_law_731 (i := 25) rfl
theorem dL_law_766 : decode cL_law 766 = .ok (.iaload, 1) := dk_at k_dL_law_731 (i := 26) rfl
theorem dL_law_767 : decode cL_law 767 = .ok (.aload_n 3, 1) := dk_at k_dL_law_731 (i := 27) rfl
theorem dL_law_768 : decode cL_law 768 = .ok (.invokestatic 156, 3) := dk_at k_dL_law_731 (i := 28) rfl
theorem dL_law_771 : decode cL_law 771 = .ok (.istore 5, 2) := dk_at k_dL_law_731 (i := 29) rfl
theorem dL_law_773 : decode cL_law 773 = .ok (.aload_n 2, 1) := dk_at k_dL_law_731 (i := 30) rfl
theorem dL_law_774 : decode cL_law 774 = .ok (.aload_n 0, 1) := dk_at k_dL_law_731 (i := 31) rfl
theorem k_dL_law_775 : dk cL_law [(775, .iload 4, 2), (777, .iconst 1, 1), (778, .iadd, 1), (779, .iaload, 1), (780, .aload_n 0, 1), (781, .iload 4, 2), (783, .iconst 2, 1), (784, .iadd, 1), (785, .iaload, 1), (786, .aload_n 0, 1), (787, .iload 4, 2), (789, .iconst 3, 1), (790, .iadd, 1), (791, .iaload, 1), (792, .invokevirtual 158, 3), (795, .istore 6, 2), (797, .goto 486, 3), (800, .aload_n 1, 1), (801, .aload_n 0, 1), (802, .iload 4, 2), (804, .iconst 1, 1), (805, .iadd, 1), (806, .iaload, 1), (807, .aload_n 0, 1), (808, .iload 4, 2), (810, .iconst 2, 1), (811, .iadd, 1), (812, .iaload, 1), (813, .aload_n 3, 1), (814, .invokestatic 159, 3), (817, .istore 5, 2), (819, .aload_n 2, 1)] = true := by decide +kernel
theorem dL_law_775 : decode cL_law 775 = .ok (.iload 4, 2) := dk_at k_dL_law_775 (i := 0) rfl
theorem dL_law_777 : decode cL_law 777 = .ok (.iconst 1, 1) := dk_at k_dL_law_775 (i := 1) rfl
theorem dL_law_778 : decode cL_law 778 = .ok (.iadd, 1) := dk_at k_dL_law_775 (i := 2) rfl
theorem dL_law_779 : decode cL_law 779 = .ok (.iaload, 1) := dk_at k_dL_law_775 (i := 3) rfl
theorem dL_law_780 : decode cL_law 780 = .ok (.aload_n 0, 1) := dk_at k_dL_law_775 (i := 4) rfl
theorem dL_law_781 : decode cL_law 781 = .ok (.iload 4, 2) := dk_at k_dL_law_775 (i := 5) rfl
theorem dL_law_783 : decode cL_law 783 = .ok (.iconst 2, 1) := dk_at k_dL_law_775 (i := 6) rfl
theorem dL_law_784 : decode cL_law 784 = .ok (.iadd, 1) := dk_at k_dL_law_775 (i := 7) rfl
theorem dL_law_785 : decode cL_law 785 = .ok (.iaload, 1) := dk_at k_dL_law_775 (i := 8) rfl
theorem dL_law_786 : decode cL_law 786 = .ok (.aload_n 0, 1) := dk_at k_dL_law_775 (i := 9) rfl
theorem dL_law_787 : decode cL_law 787 = .ok (.iload 4, 2) := dk_at k_dL_law_775 (i := 10) rfl
theorem dL_law_789 : decode cL_law 789 = .ok (.iconst 3, 1) := dk_at k_dL_law_775 (i := 11) rfl
theorem dL_law_790 : decode cL_law 790 = .ok (.iadd, 1) := dk_at k_dL_law_775 (i := 12) rfl
theorem dL_law_791 : decode cL_law 791 = .ok (.iaload, 1) := dk_at k_dL_law_775 (i := 13) rfl
theorem dL_law_792 : decode cL_law 792 = .ok (.invokevirtual 158, 3) := dk_at k_dL_law_775 (i := 14) rfl
theorem dL_law_795 : decode cL_law 795 = .ok (.istore 6, 2) := dk_at k_dL_law_775 (i := 15) rfl
theorem dL_law_797 : decode cL_law 797 = .ok (.goto 486, 3) := dk_at k_dL_law_775 (i := 16) rfl
theorem dL_law_800 : decode cL_law 800 = .ok (.aload_n 1, 1) := dk_at k_dL_law_775 (i := 17) rfl
theorem dL_law_801 : decode cL_law 801 = .ok (.aload_n 0, 1) := dk_at k_dL_law_775 (i := 18) rfl
theorem dL_law_802 : decode cL_law 802 = .ok (.iload 4, 2) := dk_at k_dL_law_775 (i := 19) rfl
theorem dL_law_804 : decode cL_law 804 = .ok (.iconst 1, 1) := dk_at k_dL_law_775 (i := 20) rfl
theorem dL_law_805 : decode cL_law 805 = .ok (.iadd, 1) := dk_at k_dL_law_775 (i := 21) rfl
theorem dL_law_806 : decode cL_law 806 = .ok (.iaload, 1) := dk_at k_dL_law_775 (i := 22) rfl
theorem dL_law_807 : decode cL_law 807 = .ok (.aload_n 0, 1) := dk_at k_dL_law_775 (i := 23) rfl
theorem dL_law_808 : decode cL_law 808 = .ok (.iload 4, 2) := dk_at k_dL_law_775 (i := 24) rfl
theorem dL_law_810 : decode cL_law 810 = .ok (.iconst 2, 1) := dk_at k_dL_law_775 (i := 25) rfl
theorem dL_law_811 : decode cL_law 811 = .ok (.iadd, 1) := dk_at k_dL_law_775 (i := 26) rfl
theorem dL_law_812 : decode cL_law 812 = .ok (.iaload, 1) := dk_at k_dL_law_775 (i := 27) rfl
theorem dL_law_813 : decode cL_law 813 = .ok (.aload_n 3, 1) := dk_at k_dL_law_775 (i := 28) rfl
theorem dL_law_814 : decode cL_law 814 = .ok (.invokestatic 159, 3) := dk_at k_dL_law_775 (i := 29) rfl
theorem dL_law_817 : decode cL_law 817 = .ok (.istore 5, 2) := dk_at k_dL_law_775 (i := 30) rfl
theorem dL_law_819 : decode cL_law 819 = .ok (.aload_n 2, 1) := dk_at k_dL_law_775 (i := 31) rfl
theorem k_dL_law_820 : dk cL_law [(820, .aload_n 0, 1), (821, .iload 4, 2), (823, .iconst 1, 1), (824, .iadd, 1), (825, .iaload, 1), (826, .aload_n 0, 1), (827, .iload 4, 2), (829, .iconst 2, 1), (830, .iadd, 1), (831, .iaload, 1), (832, .invokevirtual 161, 3), (835, .istore 6, 2), (837, .goto 446, 3), (840, .aload_n 1, 1), (841, .invokevirtual 162, 3), (844, .pop, 1), (845, .aload_n 2, 1), (846, .invokevirtual 165, 3), (849, .pop, 1), (850, .goto 433, 3), (853, .aload_n 1, 1), (854, .aload_n 0, 1), (855, .iload 4, 2), (857, .iconst 1, 1), (858, .iadd, 1), (859, .iaload, 1), (860, .aload_n 0, 1), (861, .iload 4, 2), (863, .iconst 2, 1), (864, .iadd, 1), (865, .iaload, 1), (866, .aload_n 3, 1)] = true := by decide +kernel
theorem dL_law_820 : decode cL_law 820 = .ok (.aload_n 0, 1) := dk_at k_dL_law_820 (i := 0) rfl
theorem dL_law_821 : decode cL_law 821 = .ok (.iload 4, 2) := dk_at k_dL_law_820 (i := 1) rfl
theorem dL_law_823 : decode cL_law 823 = .ok (.iconst 1, 1) := dk_at k_dL_law_820 (i := 2) rfl
theorem dL_law_824 : decode cL_law 824 = .ok (.iadd, 1) := dk_at k_dL_law_820 (i := 3) rfl
theorem dL_law_825 : decode cL_law 825 = .ok (.iaload, 1) := dk_at k_dL_law_820 (i := 4) rfl
theorem dL_law_826 : decode cL_law 826 = .ok (.aload_n 0, 1) := dk_at k_dL_law_820 (i := 5) rfl
theorem dL_law_827 : decode cL_law 827 = .ok (.iload 4, 2) := dk_at k_dL_law_820 (i := 6) rfl
theorem dL_law_829 : decode cL_law 829 = .ok (.iconst 2, 1) := dk_at k_dL_law_820 (i := 7) rfl
theorem dL_law_830 : decode cL_law 830 = .ok (.iadd, 1) := dk_at k_dL_law_820 (i := 8) rfl
theorem dL_law_831 : decode cL_law 831 = .ok (.iaload, 1) := dk_at k_dL_law_820 (i := 9) rfl
theorem dL_law_832 : decode cL_law 832 = .ok (.invokevirtual 161, 3) := dk_at k_dL_law_820 (i := 10) rfl
theorem dL_law_835 : decode cL_law 835 = .ok (.istore 6, 2) := dk_at k_dL_law_820 (i := 11) rfl
theorem dL_law_837 : decode cL_law 837 = .ok (.goto 446, 3) := dk_at k_dL_law_820 (i := 12) rfl
theorem dL_law_840 : decode cL_law 840 = .ok (.aload_n 1, 1) := dk_at k_dL_law_820 (i := 13) rfl
theorem dL_law_841 : decode cL_law 841 = .ok (.invokevirtual 162, 3) := dk_at k_dL_law_820 (i := 14) rfl
theorem dL_law_844 : decode cL_law 844 = .ok (.pop, 1) := dk_at k_dL_law_820 (i := 15) rfl
theorem dL_law_845 : decode cL_law 845 = .ok (.aload_n 2, 1) := dk_at k_dL_law_820 (i := 16) rfl
theorem dL_law_846 : decode cL_law 846 = .ok (.invokevirtual 165, 3) := dk_at k_dL_law_820 (i := 17) rfl
theorem dL_law_849 : decode cL_law 849 = .ok (.pop, 1) := dk_at k_dL_law_820 (i := 18) rfl
theorem dL_law_850 : decode cL_law 850 = .ok (.goto 433, 3) := dk_at k_dL_law_820 (i := 19) rfl
theorem dL_law_853 : decode cL_law 853 = .ok (.aload_n 1, 1) := dk_at k_dL_law_820 (i := 20) rfl
theorem dL_law_854 : decode cL_law 854 = .ok (.aload_n 0, 1) := dk_at k_dL_law_820 (i := 21) rfl
theorem dL_law_855 : decode cL_law 855 = .ok (.iload 4, 2) := dk_at k_dL_law_820 (i := 22) rfl
theorem dL_law_857 : decode cL_law 857 = .ok (.iconst 1, 1) := dk_at k_dL_law_820 (i := 23) rfl
theorem dL_law_858 : decode cL_law 858 = .ok (.iadd, 1) := dk_at k_dL_law_820 (i := 24) rfl
theorem dL_law_859 : decode cL_law 859 = .ok (.iaload, 1) := dk_at k_dL_law_820 (i := 25) rfl
theorem dL_law_860 : decode cL_law 860 = .ok (.aload_n 0, 1) := dk_at k_dL_law_820 (i := 26) rfl
theorem dL_law_861 : decode cL_law 861 = .ok (.iload 4, 2) := dk_at k_dL_law_820 (i := 27) rfl
theorem dL_law_863 : decode cL_law 863 = .ok (.iconst 2, 1) := dk_at k_dL_law_820 (i := 28) rfl
theorem dL_law_864 : decode cL_law 864 = .ok (.iadd, 1) := dk_at k_dL_law_820 (i := 29) rfl
theorem dL_law_865 : decode cL_law 865 = .ok (.iaload, 1) := dk_at k_dL_law_820 (i := 30) rfl
theorem dL_law_866 : decode cL_law 866 = .ok (.aload_n 3, 1) := dk_at k_dL_law_820 (i := 31) rfl
theorem k_dL_law_867 : dk cL_law [(867, .invokestatic 166, 3), (870, .istore 5, 2), (872, .aload_n 2, 1), (873, .aload_n 0, 1), (874, .iload 4, 2), (876, .iconst 1, 1), (877, .iadd, 1), (878, .iaload, 1), (879, .aload_n 0, 1), (880, .iload 4, 2), (882, .iconst 2, 1), (883, .iadd, 1), (884, .iaload, 1), (885, .invokevirtual 168, 3), (888, .istore 6, 2), (890, .goto 393, 3), (893, .aload_n 1, 1), (894, .aload_n 0, 1), (895, .iload 4, 2), (897, .iconst 1, 1), (898, .iadd, 1), (899, .iaload, 1), (900, .aload_n 0, 1), (901, .iload 4, 2), (903, .iconst 2, 1), (904, .iadd, 1), (905, .iaload, 1), (906, .aload_n 3, 1), (907, .invokestatic 169, 3), (910, .istore 5, 2), (912, .aload_n 2, 1), (913, .aload_n 0, 1)] = true := by decide +kernel
theorem dL_law_867 : decode cL_law 867 = .ok (.invokestatic 166, 3) := dk_at k_dL_law_867 (i := 0) rfl
theorem dL_law_870 : decode cL_law 870 = .ok (.istore 5, 2) := dk_at k_dL_law_867 (i := 1) rfl
theorem dL_law_872 : decode cL_law 872 = .ok (.aload_n 2, 1) := dk_at k_dL_law_867 (i := 2) rfl
theorem dL_law_873 : decode cL_law 873 = .ok (.aload_n 0, 1) := dk_at k_dL_law_867 (i := 3) rfl
theorem dL_law_874 : decode cL_law 874 = .ok (.iload 4, 2) := dk_at k_dL_law_867 (i := 4) rfl
theorem dL_law_876 : decode cL_law 876 = .ok (.iconst 1, 1) := dk_at k_dL_law_867 (i := 5) rfl
theorem dL_law_877 : decode cL_law 877 = .ok (.iadd, 1) := dk_at k_dL_law_867 (i := 6) rfl
theorem dL_law_878 : decode cL_law 878 = .ok (.iaload, 1) := dk_at k_dL_law_867 (i := 7) rfl
theorem dL_law_879 : decode cL_law 879 = .ok (.aload_n 0, 1) := dk_at k_dL_law_867 (i := 8) rfl
theorem dL_law_880 : decode cL_law 880 = .ok (.iload 4, 2) := dk_at k_dL_law_867 (i := 9) rfl
theorem dL_law_882 : decode cL_law 882 = .ok (.iconst 2, 1) := dk_at k_dL_law_867 (i := 10) rfl
theorem dL_law_883 : decode cL_law 883 = .ok (.iadd, 1) := dk_at k_dL_law_867 (i := 11) rfl
theorem dL_law_884 : decode cL_law 884 = .ok (.iaload, 1) := dk_at k_dL_law_867 (i := 12) rfl
theorem dL_law_885 : decode cL_law 885 = .ok (.invokevirtual 168, 3) := dk_at k_dL_law_867 (i := 13) rfl
theorem dL_law_888 : decode cL_law 888 = .ok (.istore 6, 2) := dk_at k_dL_law_867 (i := 14) rfl
theorem dL_law_890 : decode cL_law 890 = .ok (.goto 393, 3) := dk_at k_dL_law_867 (i := 15) rfl
theorem dL_law_893 : decode cL_law 893 = .ok (.aload_n 1, 1) := dk_at k_dL_law_867 (i := 16) rfl
theorem dL_law_894 : decode cL_law 894 = .ok (.aload_n 0, 1) := dk_at k_dL_law_867 (i := 17) rfl
theorem dL_law_895 : decode cL_law 895 = .ok (.iload 4, 2) := dk_at k_dL_law_867 (i := 18) rfl
theorem dL_law_897 : decode cL_law 897 = .ok (.iconst 1, 1) := dk_at k_dL_law_867 (i := 19) rfl
theorem dL_law_898 : decode cL_law 898 = .ok (.iadd, 1) := dk_at k_dL_law_867 (i := 20) rfl
theorem dL_law_899 : decode cL_law 899 = .ok (.iaload, 1) := dk_at k_dL_law_867 (i := 21) rfl
theorem dL_law_900 : decode cL_law 900 = .ok (.aload_n 0, 1) := dk_at k_dL_law_867 (i := 22) rfl
theorem dL_law_901 : decode cL_law 901 = .ok (.iload 4, 2) := dk_at k_dL_law_867 (i := 23) rfl
theorem dL_law_903 : decode cL_law 903 = .ok (.iconst 2, 1) := dk_at k_dL_law_867 (i := 24) rfl
theorem dL_law_904 : decode cL_law 904 = .ok (.iadd, 1) := dk_at k_dL_law_867 (i := 25) rfl
theorem dL_law_905 : decode cL_law 905 = .ok (.iaload, 1) := dk_at k_dL_law_867 (i := 26) rfl
theorem dL_law_906 : decode cL_law 906 = .ok (.aload_n 3, 1) := dk_at k_dL_law_867 (i := 27) rfl
theorem dL_law_907 : decode cL_law 907 = .ok (.invokestatic 169, 3) := dk_at k_dL_law_867 (i := 28) rfl
theorem dL_law_910 : decode cL_law 910 = .ok (.istore 5, 2) := dk_at k_dL_law_867 (i := 29) rfl
theorem dL_law_912 : decode cL_law 912 = .ok (.aload_n 2, 1) := dk_at k_dL_law_867 (i := 30) rfl
theorem dL_law_913 : decode cL_law 913 = .ok (.aload_n 0, 1) := dk_at k_dL_law_867 (i := 31) rfl
theorem k_dL_law_914 : dk cL_law [(914, .iload 4, 2), (916, .iconst 1, 1), (917, .iadd, 1), (918, .iaload, 1), (919, .aload_n 0, 1), (920, .iload 4, 2), (922, .iconst 2, 1), (923, .iadd, 1), (924, .iaload, 1), (925, .invokevirtual 171, 3), (928, .istore 6, 2), (930, .goto 353, 3), (933, .aload_n 1, 1), (934, .aload_n 0, 1), (935, .iload 4, 2), (937, .iconst 1, 1), (938, .iadd, 1), (939, .iaload, 1), (940, .aload_n 0, 1), (941, .iload 4, 2), (943, .iconst 2, 1), (944, .iadd, 1), (945, .iaload, 1), (946, .aload_n 3, 1), (947, .invokestatic 172, 3), (950, .istore 5, 2), (952, .aload_n 2, 1), (953, .aload_n 0, 1), (954, .iload 4, 2), (956, .iconst 1, 1), (957, .iadd, 1), (958, .iaload, 1)] = true := by decide +kernel
theorem dL_law_914 : decode cL_law 914 = .ok (.iload 4, 2) := dk_at k_dL_law_914 (i := 0) rfl
theorem dL_law_916 : decode cL_law 916 = .ok (.iconst 1, 1) := dk_at k_dL_law_914 (i := 1) rfl
theorem dL_law_917 : decode cL_law 917 = .ok (.iadd, 1) := dk_at k_dL_law_914 (i := 2) rfl
theorem dL_law_918 : decode cL_law 918 = .ok (.iaload, 1) := dk_at k_dL_law_914 (i := 3) rfl
theorem dL_law_919 : decode cL_law 919 = .ok (.aload_n 0, 1) := dk_at k_dL_law_914 (i := 4) rfl
theorem dL_law_920 : decode cL_law 920 = .ok (.iload 4, 2) := dk_at k_dL_law_914 (i := 5) rfl
theorem dL_law_922 : decode cL_law 922 = .ok (.iconst 2, 1) := dk_at k_dL_law_914 (i := 6) rfl
theorem dL_law_923 : decode cL_law 923 = .ok (.iadd, 1) := dk_at k_dL_law_914 (i := 7) rfl
theorem dL_law_924 : decode cL_law 924 = .ok (.iaload, 1) := dk_at k_dL_law_914 (i := 8) rfl
theorem dL_law_925 : decode cL_law 925 = .ok (.invokevirtual 171, 3) := dk_at k_dL_law_914 (i := 9) rfl
theorem dL_law_928 : decode cL_law 928 = .ok (.istore 6, 2) := dk_at k_dL_law_914 (i := 10) rfl
theorem dL_law_930 : decode cL_law 930 = .ok (.goto 353, 3) := dk_at k_dL_law_914 (i := 11) rfl
theorem dL_law_933 : decode cL_law 933 = .ok (.aload_n 1, 1) := dk_at k_dL_law_914 (i := 12) rfl
theorem dL_law_934 : decode cL_law 934 = .ok (.aload_n 0, 1) := dk_at k_dL_law_914 (i := 13) rfl
theorem dL_law_935 : decode cL_law 935 = .ok (.iload 4, 2) := dk_at k_dL_law_914 (i := 14) rfl
theorem dL_law_937 : decode cL_law 937 = .ok (.iconst 1, 1) := dk_at k_dL_law_914 (i := 15) rfl
theorem dL_law_938 : decode cL_law 938 = .ok (.iadd, 1) := dk_at k_dL_law_914 (i := 16) rfl
theorem dL_law_939 : decode cL_law 939 = .ok (.iaload, 1) := dk_at k_dL_law_914 (i := 17) rfl
theorem dL_law_940 : decode cL_law 940 = .ok (.aload_n 0, 1) := dk_at k_dL_law_914 (i := 18) rfl
theorem dL_law_941 : decode cL_law 941 = .ok (.iload 4, 2) := dk_at k_dL_law_914 (i := 19) rfl
theorem dL_law_943 : decode cL_law 943 = .ok (.iconst 2, 1) := dk_at k_dL_law_914 (i := 20) rfl
theorem dL_law_944 : decode cL_law 944 = .ok (.iadd, 1) := dk_at k_dL_law_914 (i := 21) rfl
theorem dL_law_945 : decode cL_law 945 = .ok (.iaload, 1) := dk_at k_dL_law_914 (i := 22) rfl
theorem dL_law_946 : decode cL_law 946 = .ok (.aload_n 3, 1) := dk_at k_dL_law_914 (i := 23) rfl
theorem dL_law_947 : decode cL_law 947 = .ok (.invokestatic 172, 3) := dk_at k_dL_law_914 (i := 24) rfl
theorem dL_law_950 : decode cL_law 950 = .ok (.istore 5, 2) := dk_at k_dL_law_914 (i := 25) rfl
theorem dL_law_952 : decode cL_law 952 = .ok (.aload_n 2, 1) := dk_at k_dL_law_914 (i := 26) rfl
theorem dL_law_953 : decode cL_law 953 = .ok (.aload_n 0, 1) := dk_at k_dL_law_914 (i := 27) rfl
theorem dL_law_954 : decode cL_law 954 = .ok (.iload 4, 2) := dk_at k_dL_law_914 (i := 28) rfl
theorem dL_law_956 : decode cL_law 956 = .ok (.iconst 1, 1) := dk_at k_dL_law_914 (i := 29) rfl
theorem dL_law_957 : decode cL_law 957 = .ok (.iadd, 1) := dk_at k_dL_law_914 (i := 30) rfl
theorem dL_law_958 : decode cL_law 958 = .ok (.iaload, 1) := dk_at k_dL_law_914 (i := 31) rfl
theorem k_dL_law_959 : dk cL_law [(959, .aload_n 0, 1), (960, .iload 4, 2), (962, .iconst 2, 1), (963, .iadd, 1), (964, .iaload, 1), (965, .invokevirtual 174, 3), (968, .istore 6, 2), (970, .goto 313, 3), (973, .aload_n 1, 1), (974, .aload_n 0, 1), (975, .iload 4, 2), (977, .iconst 1, 1), (978, .iadd, 1), (979, .iaload, 1), (980, .aload_n 0, 1), (981, .iload 4, 2), (983, .iconst 2, 1), (984, .iadd, 1), (985, .iaload, 1), (986, .aload_n 3, 1), (987, .invokestatic 175, 3), (990, .istore 5, 2), (992, .aload_n 2, 1), (993, .aload_n 0, 1), (994, .iload 4, 2), (996, .iconst 1, 1), (997, .iadd, 1), (998, .iaload, 1), (999, .aload_n 0, 1), (1000, .iload 4, 2), (1002, .iconst 2, 1), (1003, .iadd, 1)] = true := by decide +kernel
theorem dL_law_959 : decode cL_law 959 = .ok (.aload_n 0, 1) := dk_at k_dL_law_959 (i := 0) rfl
theorem dL_law_960 : decode cL_law 960 = .ok (.iload 4, 2) := dk_at k_dL_law_959 (i := 1) rfl
theorem dL_law_962 : decode cL_law 962 = .ok (.iconst 2, 1) := dk_at k_dL_law_959 (i := 2) rfl
theorem dL_law_963 : decode cL_law 963 = .ok (.iadd, 1) := dk_at k_dL_law_959 (i := 3) rfl
theorem dL_law_964 : decode cL_law 964 = .ok (.iaload, 1) := dk_at k_dL_law_959 (i := 4) rfl
theorem dL_law_965 : decode cL_law 965 = .ok (.invokevirtual 174, 3) := dk_at k_dL_law_959 (i := 5) rfl
theorem dL_law_968 : decode cL_law 968 = .ok (.istore 6, 2) := dk_at k_dL_law_959 (i := 6) rfl
theorem dL_law_970 : decode cL_law 970 = .ok (.goto 313, 3) := dk_at k_dL_law_959 (i := 7) rfl
theorem dL_law_973 : decode cL_law 973 = .ok (.aload_n 1, 1) := dk_at k_dL_law_959 (i := 8) rfl
theorem dL_law_974 : decode cL_law 974 = .ok (.aload_n 0, 1) := dk_at k_dL_law_959 (i := 9) rfl
theorem dL_law_975 : decode cL_law 975 = .ok (.iload 4, 2) := dk_at k_dL_law_959 (i := 10) rfl
theorem dL_law_977 : decode cL_law 977 = .ok (.iconst 1, 1) := dk_at k_dL_law_959 (i := 11) rfl
theorem dL_law_978 : decode cL_law 978 = .ok (.iadd, 1) := dk_at k_dL_law_959 (i := 12) rfl
theorem dL_law_979 : decode cL_law 979 = .ok (.iaload, 1) := dk_at k_dL_law_959 (i := 13) rfl
theorem dL_law_980 : decode cL_law 980 = .ok (.aload_n 0, 1) := dk_at k_dL_law_959 (i := 14) rfl
theorem dL_law_981 : decode cL_law 981 = .ok (.iload 4, 2) := dk_at k_dL_law_959 (i := 15) rfl
theorem dL_law_983 : decode cL_law 983 = .ok (.iconst 2, 1) := dk_at k_dL_law_959 (i := 16) rfl
theorem dL_law_984 : decode cL_law 984 = .ok (.iadd, 1) := dk_at k_dL_law_959 (i := 17) rfl
theorem dL_law_985 : decode cL_law 985 = .ok (.iaload, 1) := dk_at k_dL_law_959 (i := 18) rfl
theorem dL_law_986 : decode cL_law 986 = .ok (.aload_n 3, 1) := dk_at k_dL_law_959 (i := 19) rfl
theorem dL_law_987 : decode cL_law 987 = .ok (.invokestatic 175, 3) := dk_at k_dL_law_959 (i := 20) rfl
theorem dL_law_990 : decode cL_law 990 = .ok (.istore 5, 2) := dk_at k_dL_law_959 (i := 21) rfl
theorem dL_law_992 : decode cL_law 992 = .ok (.aload_n 2, 1) := dk_at k_dL_law_959 (i := 22) rfl
theorem dL_law_993 : decode cL_law 993 = .ok (.aload_n 0, 1) := dk_at k_dL_law_959 (i := 23) rfl
theorem dL_law_994 : decode cL_law 994 = .ok (.iload 4, 2) := dk_at k_dL_law_959 (i := 24) rfl
theorem dL_law_996 : decode cL_law 996 = .ok (.iconst 1, 1) := dk_at k_dL_law_959 (i := 25) rfl
theorem dL_law_997 : decode cL_law 997 = .ok (.iadd, 1) := dk_at k_dL_law_959 (i := 26) rfl
theorem dL_law_998 : decode cL_law 998 = .ok (.iaload, 1) := dk_at k_dL_law_959 (i := 27) rfl
theorem dL_law_999 : decode cL_law 999 = .ok (.aload_n 0, 1) := dk_at k_dL_law_959 (i := 28) rfl
theorem dL_law_1000 : decode cL_law 1000 = .ok (.iload 4, 2) := dk_at k_dL_law_959 (i := 29) rfl
theorem dL_law_1002 : decode cL_law 1002 = .ok (.iconst 2, 1) := dk_at k_dL_law_959 (i := 30) rfl
theorem dL_law_1003 : decode cL_law 1003 = .ok (.iadd, 1) := dk_at k_dL_law_959 (i := 31) rfl
theorem k_dL_law_1004 : dk cL_law [(1004, .iaload, 1), (1005, .invokevirtual 177, 3), (1008, .istore 6, 2), (1010, .goto 273, 3), (1013, .aload_n 1, 1), (1014, .aload_n 0, 1), (1015, .iload 4, 2), (1017, .iconst 1, 1), (1018, .iadd, 1), (1019, .iaload, 1), (1020, .aload_n 0, 1), (1021, .iload 4, 2), (1023, .iconst 2, 1), (1024, .iadd, 1), (1025, .iaload, 1), (1026, .aload_n 3, 1), (1027, .invokestatic 178, 3), (1030, .istore 5, 2), (1032, .aload_n 2, 1), (1033, .aload_n 0, 1), (1034, .iload 4, 2), (1036, .iconst 1, 1), (1037, .iadd, 1), (1038, .iaload, 1), (1039, .aload_n 0, 1), (1040, .iload 4, 2), (1042, .iconst 2, 1), (1043, .iadd, 1), (1044, .iaload, 1), (1045, .invokevirtual 180, 3), (1048, .istore 6, 2), (1050, .goto 233, 3)] = true := by decide +kernel
theorem dL_law_1004 : decode cL_law 1004 = .ok (.iaload, 1) := dk_at k_dL_law_1004 (i := 0) rfl
theorem dL_law_1005 : decode cL_law 1005 = .ok (.invokevirtual 177, 3) := dk_at k_dL_law_1004 (i := 1) rfl
theorem dL_law_1008 : decode cL_law 1008 = .ok (.istore 6, 2) := dk_at k_dL_law_1004 (i := 2) rfl
theorem dL_law_1010 : decode cL_law 1010 = .ok (.goto 273, 3) := dk_at k_dL_law_1004 (i := 3) rfl
theorem dL_law_1013 : decode cL_law 1013 = .ok (.aload_n 1, 1) := dk_at k_dL_law_1004 (i := 4) rfl
theorem dL_law_1014 : decode cL_law 1014 = .ok (.aload_n 0, 1) := dk_at k_dL_law_1004 (i := 5) rfl
theorem dL_law_1015 : decode cL_law 1015 = .ok (.iload 4, 2) := dk_at k_dL_law_1004 (i := 6) rfl
theorem dL_law_1017 : decode cL_law 1017 = .ok (.iconst 1, 1) := dk_at k_dL_law_1004 (i := 7) rfl
theorem dL_law_1018 : decode cL_law 1018 = .ok (.iadd, 1) := dk_at k_dL_law_1004 (i := 8) rfl
theorem dL_law_1019 : decode cL_law 1019 = .ok (.iaload, 1) := dk_at k_dL_law_1004 (i := 9) rfl
theorem dL_law_1020 : decode cL_law 1020 = .ok (.aload_n 0, 1) := dk_at k_dL_law_1004 (i := 10) rfl
theorem dL_law_1021 : decode cL_law 1021 = .ok (.iload 4, 2) := dk_at k_dL_law_1004 (i := 11) rfl
theorem dL_law_1023 : decode cL_law 1023 = .ok (.iconst 2, 1) := dk_at k_dL_law_1004 (i := 12) rfl
theorem dL_law_1024 : decode cL_law 1024 = .ok (.iadd, 1) := dk_at k_dL_law_1004 (i := 13) rfl
theorem dL_law_1025 : decode cL_law 1025 = .ok (.iaload, 1) := dk_at k_dL_law_1004 (i := 14) rfl
theorem dL_law_1026 : decode cL_law 1026 = .ok (.aload_n 3, 1) := dk_at k_dL_law_1004 (i := 15) rfl
theorem dL_law_1027 : decode cL_law 1027 = .ok (.invokestatic 178, 3) := dk_at k_dL_law_1004 (i := 16) rfl
theorem dL_law_1030 : decode cL_law 1030 = .ok (.istore 5, 2) := dk_at k_dL_law_1004 (i := 17) rfl
theorem dL_law_1032 : decode cL_law 1032 = .ok (.aload_n 2, 1) := dk_at k_dL_law_1004 (i := 18) rfl
theorem dL_law_1033 : decode cL_law 1033 = .ok (.aload_n 0, 1) := dk_at k_dL_law_1004 (i := 19) rfl
theorem dL_law_1034 : decode cL_law 1034 = .ok (.iload 4, 2) := dk_at k_dL_law_1004 (i := 20) rfl
theorem dL_law_1036 : decode cL_law 1036 = .ok (.iconst 1, 1) := dk_at k_dL_law_1004 (i := 21) rfl
theorem dL_law_1037 : decode cL_law 1037 = .ok (.iadd, 1) := dk_at k_dL_law_1004 (i := 22) rfl
theorem dL_law_1038 : decode cL_law 1038 = .ok (.iaload, 1) := dk_at k_dL_law_1004 (i := 23) rfl
theorem dL_law_1039 : decode cL_law 1039 = .ok (.aload_n 0, 1) := dk_at k_dL_law_1004 (i := 24) rfl
theorem dL_law_1040 : decode cL_law 1040 = .ok (.iload 4, 2) := dk_at k_dL_law_1004 (i := 25) rfl
theorem dL_law_1042 : decode cL_law 1042 = .ok (.iconst 2, 1) := dk_at k_dL_law_1004 (i := 26) rfl
theorem dL_law_1043 : decode cL_law 1043 = .ok (.iadd, 1) := dk_at k_dL_law_1004 (i := 27) rfl
theorem dL_law_1044 : decode cL_law 1044 = .ok (.iaload, 1) := dk_at k_dL_law_1004 (i := 28) rfl
theorem dL_law_1045 : decode cL_law 1045 = .ok (.invokevirtual 180, 3) := dk_at k_dL_law_1004 (i := 29) rfl
theorem dL_law_1048 : decode cL_law 1048 = .ok (.istore 6, 2) := dk_at k_dL_law_1004 (i := 30) rfl
theorem dL_law_1050 : decode cL_law 1050 = .ok (.goto 233, 3) := dk_at k_dL_law_1004 (i := 31) rfl
theorem k_dL_law_1053 : dk cL_law [(1053, .aload_n 1, 1), (1054, .aload_n 0, 1), (1055, .iload 4, 2), (1057, .iconst 1, 1), (1058, .iadd, 1), (1059, .iaload, 1), (1060, .aload_n 3, 1), (1061, .invokestatic 181, 3), (1064, .istore 5, 2), (1066, .aload_n 2, 1), (1067, .aload_n 0, 1), (1068, .iload 4, 2), (1070, .iconst 1, 1), (1071, .iadd, 1), (1072, .iaload, 1), (1073, .invokevirtual 183, 3), (1076, .istore 6, 2), (1078, .goto 205, 3), (1081, .aload_n 1, 1), (1082, .aload_n 0, 1), (1083, .iload 4, 2), (1085, .iconst 1, 1), (1086, .iadd, 1), (1087, .iaload, 1), (1088, .aload_n 3, 1), (1089, .invokestatic 184, 3), (1092, .istore 5, 2), (1094, .aload_n 2, 1), (1095, .aload_n 0, 1), (1096, .iload 4, 2), (1098, .iconst 1, 1), (1099, .iadd, 1)] = true := by decide +kernel
theorem dL_law_1053 : decode cL_law 1053 = .ok (.aload_n 1, 1) := dk_at k_dL_law_1053 (i := 0) rfl
theorem dL_law_1054 : decode cL_law 1054 = .ok (.aload_n 0, 1) := dk_at k_dL_law_1053 (i := 1) rfl
theorem dL_law_1055 : decode cL_law 1055 = .ok (.iload 4, 2) := dk_at k_dL_law_1053 (i := 2) rfl
theorem dL_law_1057 : decode cL_law 1057 = .ok (.iconst 1, 1) := dk_at k_dL_law_1053 (i := 3) rfl
theorem dL_law_1058 : decode cL_law 1058 = .ok (.iadd, 1) := dk_at k_dL_law_1053 (i := 4) rfl
theorem dL_law_1059 : decode cL_law 1059 = .ok (.iaload, 1) := dk_at k_dL_law_1053 (i := 5) rfl
theorem dL_law_1060 : decode cL_law 1060 = .ok (.aload_n 3, 1) := dk_at k_dL_law_1053 (i := 6) rfl
theorem dL_law_1061 : decode cL_law 1061 = .ok (.invokestatic 181, 3) := dk_at k_dL_law_1053 (i := 7) rfl
theorem dL_law_1064 : decode cL_law 1064 = .ok (.istore 5, 2) := dk_at k_dL_law_1053 (i := 8) rfl
theorem dL_law_1066 : decode cL_law 1066 = .ok (.aload_n 2, 1) := dk_at k_dL_law_1053 (i := 9) rfl
theorem dL_law_1067 : decode cL_law 1067 = .ok (.aload_n 0, 1) := dk_at k_dL_law_1053 (i := 10) rfl
theorem dL_law_1068 : decode cL_law 1068 = .ok (.iload 4, 2) := dk_at k_dL_law_1053 (i := 11) rfl
theorem dL_law_1070 : decode cL_law 1070 = .ok (.iconst 1, 1) := dk_at k_dL_law_1053 (i := 12) rfl
theorem dL_law_1071 : decode cL_law 1071 = .ok (.iadd, 1) := dk_at k_dL_law_1053 (i := 13) rfl
theorem dL_law_1072 : decode cL_law 1072 = .ok (.iaload, 1) := dk_at k_dL_law_1053 (i := 14) rfl
theorem dL_law_1073 : decode cL_law 1073 = .ok (.invokevirtual 183, 3) := dk_at k_dL_law_1053 (i := 15) rfl
theorem dL_law_1076 : decode cL_law 1076 = .ok (.istore 6, 2) := dk_at k_dL_law_1053 (i := 16) rfl
theorem dL_law_1078 : decode cL_law 1078 = .ok (.goto 205, 3) := dk_at k_dL_law_1053 (i := 17) rfl
theorem dL_law_1081 : decode cL_law 1081 = .ok (.aload_n 1, 1) := dk_at k_dL_law_1053 (i := 18) rfl
theorem dL_law_1082 : decode cL_law 1082 = .ok (.aload_n 0, 1) := dk_at k_dL_law_1053 (i := 19) rfl
theorem dL_law_1083 : decode cL_law 1083 = .ok (.iload 4, 2) := dk_at k_dL_law_1053 (i := 20) rfl
theorem dL_law_1085 : decode cL_law 1085 = .ok (.iconst 1, 1) := dk_at k_dL_law_1053 (i := 21) rfl
theorem dL_law_1086 : decode cL_law 1086 = .ok (.iadd, 1) := dk_at k_dL_law_1053 (i := 22) rfl
theorem dL_law_1087 : decode cL_law 1087 = .ok (.iaload, 1) := dk_at k_dL_law_1053 (i := 23) rfl
theorem dL_law_1088 : decode cL_law 1088 = .ok (.aload_n 3, 1) := dk_at k_dL_law_1053 (i := 24) rfl
theorem dL_law_1089 : decode cL_law 1089 = .ok (.invokestatic 184, 3) := dk_at k_dL_law_1053 (i := 25) rfl
theorem dL_law_1092 : decode cL_law 1092 = .ok (.istore 5, 2) := dk_at k_dL_law_1053 (i := 26) rfl
theorem dL_law_1094 : decode cL_law 1094 = .ok (.aload_n 2, 1) := dk_at k_dL_law_1053 (i := 27) rfl
theorem dL_law_1095 : decode cL_law 1095 = .ok (.aload_n 0, 1) := dk_at k_dL_law_1053 (i := 28) rfl
theorem dL_law_1096 : decode cL_law 1096 = .ok (.iload 4, 2) := dk_at k_dL_law_1053 (i := 29) rfl
theorem dL_law_1098 : decode cL_law 1098 = .ok (.iconst 1, 1) := dk_at k_dL_law_1053 (i := 30) rfl
theorem dL_law_1099 : decode cL_law 1099 = .ok (.iadd, 1) := dk_at k_dL_law_1053 (i := 31) rfl
theorem k_dL_law_1100 : dk cL_law [(1100, .iaload, 1), (1101, .invokevirtual 186, 3), (1104, .astore 6, 2), (1106, .goto 177, 3), (1109, .aload_n 1, 1), (1110, .aload_n 0, 1), (1111, .iload 4, 2), (1113, .iconst 1, 1), (1114, .iadd, 1), (1115, .iaload, 1), (1116, .aload_n 3, 1), (1117, .invokestatic 187, 3), (1120, .istore 5, 2), (1122, .aload_n 2, 1), (1123, .aload_n 0, 1), (1124, .iload 4, 2), (1126, .iconst 1, 1), (1127, .iadd, 1), (1128, .iaload, 1), (1129, .invokevirtual 189, 3), (1132, .istore 6, 2), (1134, .goto 149, 3), (1137, .aload_n 1, 1), (1138, .aload_n 0, 1), (1139, .iload 4, 2), (1141, .iconst 1, 1), (1142, .iadd, 1), (1143, .iaload, 1), (1144, .aload_n 0, 1), (1145, .iload 4, 2), (1147, .iconst 2, 1), (1148, .iadd, 1)] = true := by decide +kernel
theorem dL_law_1100 : decode cL_law 1100 = .ok (.iaload, 1) := dk_at k_dL_law_1100 (i := 0) rfl
theorem dL_law_1101 : decode cL_law 1101 = .ok (.invokevirtual 186, 3) := dk_at k_dL_law_1100 (i := 1) rfl
theorem dL_law_1104 : decode cL_law 1104 = .ok (.astore 6, 2) := dk_at k_dL_law_1100 (i := 2) rfl
theorem dL_law_1106 : decode cL_law 1106 = .ok (.goto 177, 3) := dk_at k_dL_law_1100 (i := 3) rfl
theorem dL_law_1109 : decode cL_law 1109 = .ok (.aload_n 1, 1) := dk_at k_dL_law_1100 (i := 4) rfl
theorem dL_law_1110 : decode cL_law 1110 = .ok (.aload_n 0, 1) := dk_at k_dL_law_1100 (i := 5) rfl
theorem dL_law_1111 : decode cL_law 1111 = .ok (.iload 4, 2) := dk_at k_dL_law_1100 (i := 6) rfl
theorem dL_law_1113 : decode cL_law 1113 = .ok (.iconst 1, 1) := dk_at k_dL_law_1100 (i := 7) rfl
theorem dL_law_1114 : decode cL_law 1114 = .ok (.iadd, 1) := dk_at k_dL_law_1100 (i := 8) rfl
theorem dL_law_1115 : decode cL_law 1115 = .ok (.iaload, 1) := dk_at k_dL_law_1100 (i := 9) rfl
theorem dL_law_1116 : decode cL_law 1116 = .ok (.aload_n 3, 1) := dk_at k_dL_law_1100 (i := 10) rfl
theorem dL_law_1117 : decode cL_law 1117 = .ok (.invokestatic 187, 3) := dk_at k_dL_law_1100 (i := 11) rfl
theorem dL_law_1120 : decode cL_law 1120 = .ok (.istore 5, 2) := dk_at k_dL_law_1100 (i := 12) rfl
theorem dL_law_1122 : decode cL_law 1122 = .ok (.aload_n 2, 1) := dk_at k_dL_law_1100 (i := 13) rfl
theorem dL_law_1123 : decode cL_law 1123 = .ok (.aload_n 0, 1) := dk_at k_dL_law_1100 (i := 14) rfl
theorem dL_law_1124 : decode cL_law 1124 = .ok (.iload 4, 2) := dk_at k_dL_law_1100 (i := 15) rfl
theorem dL_law_1126 : decode cL_law 1126 = .ok (.iconst 1, 1) := dk_at k_dL_law_1100 (i := 16) rfl
theorem dL_law_1127 : decode cL_law 1127 = .ok (.iadd, 1) := dk_at k_dL_law_1100 (i := 17) rfl
theorem dL_law_1128 : decode cL_law 1128 = .ok (.iaload, 1) := dk_at k_dL_law_1100 (i := 18) rfl
theorem dL_law_1129 : decode cL_law 1129 = .ok (.invokevirtual 189, 3) := dk_at k_dL_law_1100 (i := 19) rfl
theorem dL_law_1132 : decode cL_law 1132 = .ok (.istore 6, 2) := dk_at k_dL_law_1100 (i := 20) rfl
theorem dL_law_1134 : decode cL_law 1134 = .ok (.goto 149, 3) := dk_at k_dL_law_1100 (i := 21) rfl
theorem dL_law_1137 : decode cL_law 1137 = .ok (.aload_n 1, 1) := dk_at k_dL_law_1100 (i := 22) rfl
theorem dL_law_1138 : decode cL_law 1138 = .ok (.aload_n 0, 1) := dk_at k_dL_law_1100 (i := 23) rfl
theorem dL_law_1139 : decode cL_law 1139 = .ok (.iload 4, 2) := dk_at k_dL_law_1100 (i := 24) rfl
theorem dL_law_1141 : decode cL_law 1141 = .ok (.iconst 1, 1) := dk_at k_dL_law_1100 (i := 25) rfl
theorem dL_law_1142 : decode cL_law 1142 = .ok (.iadd, 1) := dk_at k_dL_law_1100 (i := 26) rfl
theorem dL_law_1143 : decode cL_law 1143 = .ok (.iaload, 1) := dk_at k_dL_law_1100 (i := 27) rfl
theorem dL_law_1144 : decode cL_law 1144 = .ok (.aload_n 0, 1) := dk_at k_dL_law_1100 (i := 28) rfl
theorem dL_law_1145 : decode cL_law 1145 = .ok (.iload 4, 2) := dk_at k_dL_law_1100 (i := 29) rfl
theorem dL_law_1147 : decode cL_law 1147 = .ok (.iconst 2, 1) := dk_at k_dL_law_1100 (i := 30) rfl
theorem dL_law_1148 : decode cL_law 1148 = .ok (.iadd, 1) := dk_at k_dL_law_1100 (i := 31) rfl
theorem k_dL_law_1149 : dk cL_law [(1149, .iaload, 1), (1150, .aload_n 3, 1), (1151, .invokestatic 190, 3), (1154, .istore 5, 2), (1156, .aload_n 2, 1), (1157, .aload_n 0, 1), (1158, .iload 4, 2), (1160, .iconst 1, 1), (1161, .iadd, 1), (1162, .iaload, 1), (1163, .aload_n 0, 1), (1164, .iload 4, 2), (1166, .iconst 2, 1), (1167, .iadd, 1), (1168, .iaload, 1), (1169, .invokevirtual 192, 3), (1172, .istore 6, 2), (1174, .goto 109, 3), (1177, .aload_n 1, 1), (1178, .aload_n 0, 1), (1179, .iload 4, 2), (1181, .iconst 1, 1), (1182, .iadd, 1), (1183, .iaload, 1), (1184, .aload_n 0, 1), (1185, .iload 4, 2), (1187, .iconst 2, 1), (1188, .iadd, 1), (1189, .iaload, 1), (1190, .aload_n 3, 1), (1191, .invokestatic 193, 3), (1194, .istore 5, 2)] = true := by decide +kernel
theorem dL_law_1149 : decode cL_law 1149 = .ok (.iaload, 1) := dk_at k_dL_law_1149 (i := 0) rfl
theorem dL_law_1150 : decode cL_law 1150 = .ok (.aload_n 3, 1) := dk_at k_dL_law_1149 (i := 1) rfl
theorem dL_law_1151 : decode cL_law 1151 = .ok (.invokestatic 190, 3) := dk_at k_dL_law_1149 (i := 2) rfl
theorem dL_law_1154 : decode cL_law 1154 = .ok (.istore 5, 2) := dk_at k_dL_law_1149 (i := 3) rfl
theorem dL_law_1156 : decode cL_law 1156 = .ok (.aload_n 2, 1) := dk_at k_dL_law_1149 (i := 4) rfl
theorem dL_law_1157 : decode cL_law 1157 = .ok (.aload_n 0, 1) := dk_at k_dL_law_1149 (i := 5) rfl
theorem dL_law_1158 : decode cL_law 1158 = .ok (.iload 4, 2) := dk_at k_dL_law_1149 (i := 6) rfl
theorem dL_law_1160 : decode cL_law 1160 = .ok (.iconst 1, 1) := dk_at k_dL_law_1149 (i := 7) rfl
theorem dL_law_1161 : decode cL_law 1161 = .ok (.iadd, 1) := dk_at k_dL_law_1149 (i := 8) rfl
theorem dL_law_1162 : decode cL_law 1162 = .ok (.iaload, 1) := dk_at k_dL_law_1149 (i := 9) rfl
theorem dL_law_1163 : decode cL_law 1163 = .ok (.aload_n 0, 1) := dk_at k_dL_law_1149 (i := 10) rfl
theorem dL_law_1164 : decode cL_law 1164 = .ok (.iload 4, 2) := dk_at k_dL_law_1149 (i := 11) rfl
theorem dL_law_1166 : decode cL_law 1166 = .ok (.iconst 2, 1) := dk_at k_dL_law_1149 (i := 12) rfl
theorem dL_law_1167 : decode cL_law 1167 = .ok (.iadd, 1) := dk_at k_dL_law_1149 (i := 13) rfl
theorem dL_law_1168 : decode cL_law 1168 = .ok (.iaload, 1) := dk_at k_dL_law_1149 (i := 14) rfl
theorem dL_law_1169 : decode cL_law 1169 = .ok (.invokevirtual 192, 3) := dk_at k_dL_law_1149 (i := 15) rfl
theorem dL_law_1172 : decode cL_law 1172 = .ok (.istore 6, 2) := dk_at k_dL_law_1149 (i := 16) rfl
theorem dL_law_1174 : decode cL_law 1174 = .ok (.goto 109, 3) := dk_at k_dL_law_1149 (i := 17) rfl
theorem dL_law_1177 : decode cL_law 1177 = .ok (.aload_n 1, 1) := dk_at k_dL_law_1149 (i := 18) rfl
theorem dL_law_1178 : decode cL_law 1178 = .ok (.aload_n 0, 1) := dk_at k_dL_law_1149 (i := 19) rfl
theorem dL_law_1179 : decode cL_law 1179 = .ok (.iload 4, 2) := dk_at k_dL_law_1149 (i := 20) rfl
theorem dL_law_1181 : decode cL_law 1181 = .ok (.iconst 1, 1) := dk_at k_dL_law_1149 (i := 21) rfl
theorem dL_law_1182 : decode cL_law 1182 = .ok (.iadd, 1) := dk_at k_dL_law_1149 (i := 22) rfl
theorem dL_law_1183 : decode cL_law 1183 = .ok (.iaload, 1) := dk_at k_dL_law_1149 (i := 23) rfl
theorem dL_law_1184 : decode cL_law 1184 = .ok (.aload_n 0, 1) := dk_at k_dL_law_1149 (i := 24) rfl
theorem dL_law_1185 : decode cL_law 1185 = .ok (.iload 4, 2) := dk_at k_dL_law_1149 (i := 25) rfl
theorem dL_law_1187 : decode cL_law 1187 = .ok (.iconst 2, 1) := dk_at k_dL_law_1149 (i := 26) rfl
theorem dL_law_1188 : decode cL_law 1188 = .ok (.iadd, 1) := dk_at k_dL_law_1149 (i := 27) rfl
theorem dL_law_1189 : decode cL_law 1189 = .ok (.iaload, 1) := dk_at k_dL_law_1149 (i := 28) rfl
theorem dL_law_1190 : decode cL_law 1190 = .ok (.aload_n 3, 1) := dk_at k_dL_law_1149 (i := 29) rfl
theorem dL_law_1191 : decode cL_law 1191 = .ok (.invokestatic 193, 3) := dk_at k_dL_law_1149 (i := 30) rfl
theorem dL_law_1194 : decode cL_law 1194 = .ok (.istore 5, 2) := dk_at k_dL_law_1149 (i := 31) rfl
theorem k_dL_law_1196 : dk cL_law [(1196, .aload_n 2, 1), (1197, .aload_n 0, 1), (1198, .iload 4, 2), (1200, .iconst 1, 1), (1201, .iadd, 1), (1202, .iaload, 1), (1203, .aload_n 0, 1), (1204, .iload 4, 2), (1206, .iconst 2, 1), (1207, .iadd, 1), (1208, .iaload, 1), (1209, .invokevirtual 195, 3), (1212, .istore 6, 2), (1214, .goto 69, 3), (1217, .aload_n 1, 1), (1218, .aload_n 0, 1), (1219, .iload 4, 2), (1221, .iconst 1, 1), (1222, .iadd, 1), (1223, .iaload, 1), (1224, .aload_n 0, 1), (1225, .iload 4, 2), (1227, .iconst 2, 1), (1228, .iadd, 1), (1229, .iaload, 1), (1230, .aload_n 3, 1), (1231, .invokestatic 196, 3), (1234, .istore 5, 2), (1236, .aload_n 2, 1), (1237, .aload_n 0, 1), (1238, .iload 4, 2), (1240, .iconst 1, 1)] = true := by decide +kernel
theorem dL_law_1196 : decode cL_law 1196 = .ok (.aload_n 2, 1) := dk_at k_dL_law_1196 (i := 0) rfl
theorem dL_law_1197 : decode cL_law 1197 = .ok (.aload_n 0, 1) := dk_at k_dL_law_1196 (i := 1) rfl
theorem dL_law_1198 : decode cL_law 1198 = .ok (.iload 4, 2) := dk_at k_dL_law_1196 (i := 2) rfl
theorem dL_law_1200 : decode cL_law 1200 = .ok (.iconst 1, 1) := dk_at k_dL_law_1196 (i := 3) rfl
theorem dL_law_1201 : decode cL_law 1201 = .ok (.iadd, 1) := dk_at k_dL_law_1196 (i := 4) rfl
theorem dL_law_1202 : decode cL_law 1202 = .ok (.iaload, 1) := dk_at k_dL_law_1196 (i := 5) rfl
theorem dL_law_1203 : decode cL_law 1203 = .ok (.aload_n 0, 1) := dk_at k_dL_law_1196 (i := 6) rfl
theorem dL_law_1204 : decode cL_law 1204 = .ok (.iload 4, 2) := dk_at k_dL_law_1196 (i := 7) rfl
theorem dL_law_1206 : decode cL_law 1206 = .ok (.iconst 2, 1) := dk_at k_dL_law_1196 (i := 8) rfl
theorem dL_law_1207 : decode cL_law 1207 = .ok (.iadd, 1) := dk_at k_dL_law_1196 (i := 9) rfl
theorem dL_law_1208 : decode cL_law 1208 = .ok (.iaload, 1) := dk_at k_dL_law_1196 (i := 10) rfl
theorem dL_law_1209 : decode cL_law 1209 = .ok (.invokevirtual 195, 3) := dk_at k_dL_law_1196 (i := 11) rfl
theorem dL_law_1212 : decode cL_law 1212 = .ok (.istore 6, 2) := dk_at k_dL_law_1196 (i := 12) rfl
theorem dL_law_1214 : decode cL_law 1214 = .ok (.goto 69, 3) := dk_at k_dL_law_1196 (i := 13) rfl
theorem dL_law_1217 : decode cL_law 1217 = .ok (.aload_n 1, 1) := dk_at k_dL_law_1196 (i := 14) rfl
theorem dL_law_1218 : decode cL_law 1218 = .ok (.aload_n 0, 1) := dk_at k_dL_law_1196 (i := 15) rfl
theorem dL_law_1219 : decode cL_law 1219 = .ok (.iload 4, 2) := dk_at k_dL_law_1196 (i := 16) rfl
theorem dL_law_1221 : decode cL_law 1221 = .ok (.iconst 1, 1) := dk_at k_dL_law_1196 (i := 17) rfl
theorem dL_law_1222 : decode cL_law 1222 = .ok (.iadd, 1) := dk_at k_dL_law_1196 (i := 18) rfl
theorem dL_law_1223 : decode cL_law 1223 = .ok (.iaload, 1) := dk_at k_dL_law_1196 (i := 19) rfl
theorem dL_law_1224 : decode cL_law 1224 = .ok (.aload_n 0, 1) := dk_at k_dL_law_1196 (i := 20) rfl
theorem dL_law_1225 : decode cL_law 1225 = .ok (.iload 4, 2) := dk_at k_dL_law_1196 (i := 21) rfl
theorem dL_law_1227 : decode cL_law 1227 = .ok (.iconst 2, 1) := dk_at k_dL_law_1196 (i := 22) rfl
theorem dL_law_1228 : decode cL_law 1228 = .ok (.iadd, 1) := dk_at k_dL_law_1196 (i := 23) rfl
theorem dL_law_1229 : decode cL_law 1229 = .ok (.iaload, 1) := dk_at k_dL_law_1196 (i := 24) rfl
theorem dL_law_1230 : decode cL_law 1230 = .ok (.aload_n 3, 1) := dk_at k_dL_law_1196 (i := 25) rfl
theorem dL_law_1231 : decode cL_law 1231 = .ok (.invokestatic 196, 3) := dk_at k_dL_law_1196 (i := 26) rfl
theorem dL_law_1234 : decode cL_law 1234 = .ok (.istore 5, 2) := dk_at k_dL_law_1196 (i := 27) rfl
theorem dL_law_1236 : decode cL_law 1236 = .ok (.aload_n 2, 1) := dk_at k_dL_law_1196 (i := 28) rfl
theorem dL_law_1237 : decode cL_law 1237 = .ok (.aload_n 0, 1) := dk_at k_dL_law_1196 (i := 29) rfl
theorem dL_law_1238 : decode cL_law 1238 = .ok (.iload 4, 2) := dk_at k_dL_law_1196 (i := 30) rfl
theorem dL_law_1240 : decode cL_law 1240 = .ok (.iconst 1, 1) := dk_at k_dL_law_1196 (i := 31) rfl
theorem k_dL_law_1241 : dk cL_law [(1241, .iadd, 1), (1242, .iaload, 1), (1243, .aload_n 0, 1), (1244, .iload 4, 2), (1246, .iconst 2, 1), (1247, .iadd, 1), (1248, .iaload, 1), (1249, .invokevirtual 198, 3), (1252, .istore 6, 2), (1254, .goto 29, 3), (1257, .aload_n 1, 1), (1258, .invokevirtual 199, 3), (1261, .pop, 1), (1262, .aload_n 2, 1), (1263, .invokevirtual 203, 3), (1266, .pop, 1), (1267, .goto 16, 3), (1270, .aload_n 1, 1), (1271, .invokevirtual 204, 3), (1274, .pop2, 1), (1275, .aload_n 2, 1), (1276, .invokevirtual 208, 3), (1279, .pop2, 1), (1280, .goto 3, 3), (1283, .iinc 4 5, 3), (1286, .goto (-1259), 3), (1289, .iconst 1, 1), (1290, .ireturn, 1)] = true := by decide +kernel
theorem dL_law_1241 : decode cL_law 1241 = .ok (.iadd, 1) := dk_at k_dL_law_1241 (i := 0) rfl
theorem dL_law_1242 : decode cL_law 1242 = .ok (.iaload, 1) := dk_at k_dL_law_1241 (i := 1) rfl
theorem dL_law_1243 : decode cL_law 1243 = .ok (.aload_n 0, 1) := dk_at k_dL_law_1241 (i := 2) rfl
theorem dL_law_1244 : decode cL_law 1244 = .ok (.iload 4, 2) := dk_at k_dL_law_1241 (i := 3) rfl
theorem dL_law_1246 : decode cL_law 1246 = .ok (.iconst 2, 1) := dk_at k_dL_law_1241 (i := 4) rfl
theorem dL_law_1247 : decode cL_law 1247 = .ok (.iadd, 1) := dk_at k_dL_law_1241 (i := 5) rfl
theorem dL_law_1248 : decode cL_law 1248 = .ok (.iaload, 1) := dk_at k_dL_law_1241 (i := 6) rfl
theorem dL_law_1249 : decode cL_law 1249 = .ok (.invokevirtual 198, 3) := dk_at k_dL_law_1241 (i := 7) rfl
theorem dL_law_1252 : decode cL_law 1252 = .ok (.istore 6, 2) := dk_at k_dL_law_1241 (i := 8) rfl
theorem dL_law_1254 : decode cL_law 1254 = .ok (.goto 29, 3) := dk_at k_dL_law_1241 (i := 9) rfl
theorem dL_law_1257 : decode cL_law 1257 = .ok (.aload_n 1, 1) := dk_at k_dL_law_1241 (i := 10) rfl
theorem dL_law_1258 : decode cL_law 1258 = .ok (.invokevirtual 199, 3) := dk_at k_dL_law_1241 (i := 11) rfl
theorem dL_law_1261 : decode cL_law 1261 = .ok (.pop, 1) := dk_at k_dL_law_1241 (i := 12) rfl
theorem dL_law_1262 : decode cL_law 1262 = .ok (.aload_n 2, 1) := dk_at k_dL_law_1241 (i := 13) rfl
theorem dL_law_1263 : decode cL_law 1263 = .ok (.invokevirtual 203, 3) := dk_at k_dL_law_1241 (i := 14) rfl
theorem dL_law_1266 : decode cL_law 1266 = .ok (.pop, 1) := dk_at k_dL_law_1241 (i := 15) rfl
theorem dL_law_1267 : decode cL_law 1267 = .ok (.goto 16, 3) := dk_at k_dL_law_1241 (i := 16) rfl
theorem dL_law_1270 : decode cL_law 1270 = .ok (.aload_n 1, 1) := dk_at k_dL_law_1241 (i := 17) rfl
theorem dL_law_1271 : decode cL_law 1271 = .ok (.invokevirtual 204, 3) := dk_at k_dL_law_1241 (i := 18) rfl
theorem dL_law_1274 : decode cL_law 1274 = .ok (.pop2, 1) := dk_at k_dL_law_1241 (i := 19) rfl
theorem dL_law_1275 : decode cL_law 1275 = .ok (.aload_n 2, 1) := dk_at k_dL_law_1241 (i := 20) rfl
theorem dL_law_1276 : decode cL_law 1276 = .ok (.invokevirtual 208, 3) := dk_at k_dL_law_1241 (i := 21) rfl
theorem dL_law_1279 : decode cL_law 1279 = .ok (.pop2, 1) := dk_at k_dL_law_1241 (i := 22) rfl
theorem dL_law_1280 : decode cL_law 1280 = .ok (.goto 3, 3) := dk_at k_dL_law_1241 (i := 23) rfl
theorem dL_law_1283 : decode cL_law 1283 = .ok (.iinc 4 5, 3) := dk_at k_dL_law_1241 (i := 24) rfl
theorem dL_law_1286 : decode cL_law 1286 = .ok (.goto (-1259), 3) := dk_at k_dL_law_1241 (i := 25) rfl
theorem dL_law_1289 : decode cL_law 1289 = .ok (.iconst 1, 1) := dk_at k_dL_law_1241 (i := 26) rfl
theorem dL_law_1290 : decode cL_law 1290 = .ok (.ireturn, 1) := dk_at k_dL_law_1241 (i := 27) rfl
/-! THE LAW'S OWN WORDS, and all of them -/
def wB_0 : List Cond := [.classLink RL 19 "java/lang/IllegalArgumentException", .classLink RL 21 "java/lang/IllegalStateException", .methodLink RL 7 yX5_field, .instanceMethod yX5_field, .selects RX5 yX5_field yX5_field, .codeWith yL_field cL_field 4 (some .int) [(0, 10, 13, 19), (0, 10, 16, 21)], .classLink RL 27 "java/lang/IndexOutOfBoundsException", .methodLink RL 23 yX5_oneOf, .instanceMethod yX5_oneOf, .selects RX5 yX5_oneOf yX5_oneOf, .codeWith yL_oneOf cL_oneOf 6 (some .int) [(0, 13, 16, 27), (0, 13, 20, 19), (0, 13, 24, 21)], .methodLink RL 29 yX5_bound, .instanceMethod yX5_bound, .selects RX5 yX5_bound yX5_bound, .codeWith yL_bound cL_bound 7 (some .int) [(0, 15, 18, 27), (0, 15, 22, 19), (0, 15, 26, 21)], .methodLink RL 33 yX5_more, .instanceMethod yX5_more, .selects RX5 yX5_more yX5_more, .codeWith yL_more cL_more 7 (some .int) [(0, 15, 18, 27), (0, 15, 22, 19), (0, 15, 26, 21)], .methodLink RL 37 yX5_unlike, .instanceMethod yX5_unlike, .selects RX5 yX5_unlike yX5_unlike, .codeWith yL_unlike cL_unlike 6 (some .int) [(0, 13, 16, 27), (0, 13, 20, 19), (0, 13, 24, 21)], .methodLink RL 40 yX5_preset, .instanceMethod yX5_preset, .selects RX5 yX5_preset yX5_preset, .codeWith yL_preset cL_preset 7 (some .int) [(0, 15, 18, 27), (0, 15, 22, 19), (0, 15, 26, 21)], .methodLink RL 43 yX5_approve, .instanceMethod yX5_approve, .selects RX5 yX5_approve yX5_approve, .codeWith yL_approve cL_approve 5 (some .int) [(0, 18, 21, 27)], .methodLink RL 47 yX5_withdraw, .instanceMethod yX5_withdraw, .selects RX5 yX5_withdraw yX5_withdraw, .codeWith yL_withdraw cL_withdraw 5 (some .int) [(0, 18, 21, 27)], .methodLink RL 50 yX5_weight, .instanceMethod yX5_weight, .selects RX5 yX5_weight yX5_weight, .codeWith yL_weight cL_weight 5 (some .int) [(0, 11, 14, 27), (0, 11, 18, 19)], .methodLink RL 54 yX5_commit, .instanceMethod yX5_commit, .selects RX5 yX5_commit yX5_commit, .codeWith yL_commit cL_commit 3 (some .int) [(0, 9, 12, 21)], .methodLink RL 58 yX5_wave, .instanceMethod yX5_wave, .selects RX5 yX5_wave yX5_wave, .codeWith yL_wave cL_wave 5 (some .int) [(0, 11, 14, 27), (0, 11, 18, 19)], .methodLink RL 61 yX5_patch, .instanceMethod yX5_patch, .selects RX5 yX5_patch yX5_patch, .codeWith yL_patch cL_patch 6 (some .int) [(0, 13, 16, 27), (0, 13, 20, 19)], .methodLink RL 64 yX5_absorb, .instanceMethod yX5_absorb, .selects RX5 yX5_absorb yX5_absorb, .codeWith yL_absorb cL_absorb 5 (some .int) [(0, 11, 14, 27), (0, 11, 18, 21)], .methodLink RL 67 yX5_ofField, .codeWith yL_ofField cL_ofField 5 (some .int) [(0, 11, 14, 27), (0, 11, 18, 19)], .methodLink RL 70 yX5_ofLine, .codeWith yL_ofLine cL_ofLine 5 (some .int) [(0, 11, 14, 27), (0, 11, 18, 19)], .methodLink RL 73 yX5_ofMachine]
def wB_1 : List Cond := [.codeWith yL_ofMachine cL_ofMachine 5 (some .int) [(0, 11, 14, 27), (0, 11, 18, 19)], .codeWith yL_has cL_has 5 (some .int) [(0, 11, 14, 27)], .codeWith yL_ofCommit cL_ofCommit 5 (some .int) [(0, 11, 14, 27)], .methodLink RL 82 yX5_house, .codeWith yL_house cL_house 4 (some .int) [(0, 10, 13, 19)], .methodLink RL 85 yX5_value, .instanceMethod yX5_value, .selects RX5 yX5_value yX5_value, .codeWith yL_value cL_value 4 (some .int) [(0, 9, 12, 27)], .methodLink RL 93 yX5_reason, .codeWith yL_reason cL_reason 4 (some .int) [(0, 10, 13, 27)], .methodLink RL 96 yX5_met, .instanceMethod yX5_met, .selects RX5 yX5_met yX5_met, .codeWith yL_met cL_met 5 (some .int) [(0, 11, 14, 27), (0, 11, 18, 19)], .methodLink RL 99 yX5_choices, .instanceMethod yX5_choices, .selects RX5 yX5_choices yX5_choices, .codeWith yL_choices cL_choices 5 (some .int) [(0, 11, 14, 27), (0, 11, 18, 19)], .codeWith yL_isNarrower cL_isNarrower 5 (some .int) [(0, 18, 21, 27)], .classLink RL 8 RX5, .instantiable RX5 4, .classLink RL 107 RX8, .instantiable RX8 15, .classLink RL 14 RX6, .instantiable RX6 2, .initialized RX6, .methodLink RL 106 yX5_init, .instanceMethod yX5_init, .methodLink RL 109 yX8_init, .instanceMethod yX8_init, .instanceMethod yX6_init, .methodLink RL 111 yL_field, .static yL_field, .initialized RL, .methodLink RL 116 yX8_field, .instanceMethod yX8_field, .selects RX8 yX8_field yX8_field, .methodLink RL 117 yL_oneOf, .static yL_oneOf, .methodLink RL 120 yX8_oneOf, .instanceMethod yX8_oneOf, .selects RX8 yX8_oneOf yX8_oneOf, .methodLink RL 121 yL_bound, .static yL_bound, .methodLink RL 124 yX8_bound, .instanceMethod yX8_bound, .selects RX8 yX8_bound yX8_bound, .methodLink RL 125 yL_more, .static yL_more, .methodLink RL 128 yX8_more, .instanceMethod yX8_more, .selects RX8 yX8_more yX8_more, .methodLink RL 129 yL_unlike, .static yL_unlike, .methodLink RL 131 yX8_unlike, .instanceMethod yX8_unlike, .selects RX8 yX8_unlike yX8_unlike, .methodLink RL 132 yL_preset, .static yL_preset]
def wB_2 : List Cond := [.methodLink RL 134 yX8_preset, .instanceMethod yX8_preset, .selects RX8 yX8_preset yX8_preset, .methodLink RL 135 yL_approve, .static yL_approve, .methodLink RL 138 yX8_approve, .instanceMethod yX8_approve, .selects RX8 yX8_approve yX8_approve, .methodLink RL 139 yX8_thrown, .instanceMethod yX8_thrown, .selects RX8 yX8_thrown yX8_thrown, .methodLink RL 142 yL_withdraw, .static yL_withdraw, .methodLink RL 144 yX8_withdraw, .instanceMethod yX8_withdraw, .selects RX8 yX8_withdraw yX8_withdraw, .methodLink RL 145 yL_weight, .static yL_weight, .methodLink RL 148 yX8_weight, .instanceMethod yX8_weight, .selects RX8 yX8_weight yX8_weight, .methodLink RL 149 yL_commit, .static yL_commit, .methodLink RL 152 yX8_commit, .instanceMethod yX8_commit, .selects RX8 yX8_commit yX8_commit, .methodLink RL 153 yL_wave, .static yL_wave, .methodLink RL 155 yX8_wave, .instanceMethod yX8_wave, .selects RX8 yX8_wave yX8_wave, .methodLink RL 156 yL_patch, .static yL_patch, .methodLink RL 158 yX8_patch, .instanceMethod yX8_patch, .selects RX8 yX8_patch yX8_patch, .methodLink RL 159 yL_absorb, .static yL_absorb, .methodLink RL 161 yX8_absorb, .instanceMethod yX8_absorb, .selects RX8 yX8_absorb yX8_absorb, .methodLink RL 162 yX5_knock, .instanceMethod yX5_knock, .selects RX5 yX5_knock yX5_knock, .methodLink RL 165 yX8_knock, .instanceMethod yX8_knock, .selects RX8 yX8_knock yX8_knock, .methodLink RL 166 yL_ofField, .static yL_ofField, .methodLink RL 168 yX8_ofField, .instanceMethod yX8_ofField, .selects RX8 yX8_ofField yX8_ofField, .methodLink RL 169 yL_ofLine, .static yL_ofLine, .methodLink RL 171 yX8_ofLine, .instanceMethod yX8_ofLine, .selects RX8 yX8_ofLine yX8_ofLine, .methodLink RL 172 yL_ofMachine, .static yL_ofMachine, .methodLink RL 174 yX8_ofMachine]
def wB_3 : List Cond := [.instanceMethod yX8_ofMachine, .selects RX8 yX8_ofMachine yX8_ofMachine, .methodLink RL 175 yL_has, .static yL_has, .methodLink RL 76 yX5_has, .methodLink RL 177 yX8_has, .instanceMethod yX8_has, .selects RX8 yX8_has yX8_has, .methodLink RL 178 yL_ofCommit, .static yL_ofCommit, .methodLink RL 79 yX5_ofCommit, .methodLink RL 180 yX8_ofCommit, .instanceMethod yX8_ofCommit, .selects RX8 yX8_ofCommit yX8_ofCommit, .methodLink RL 181 yL_house, .static yL_house, .methodLink RL 183 yX8_house, .instanceMethod yX8_house, .selects RX8 yX8_house yX8_house, .methodLink RL 184 yL_value, .static yL_value, .methodLink RL 186 yX8_value, .instanceMethod yX8_value, .selects RX8 yX8_value yX8_value, .methodLink RL 187 yL_reason, .static yL_reason, .methodLink RL 189 yX8_reason, .instanceMethod yX8_reason, .selects RX8 yX8_reason yX8_reason, .methodLink RL 190 yL_met, .static yL_met, .methodLink RL 192 yX8_met, .instanceMethod yX8_met, .selects RX8 yX8_met yX8_met, .methodLink RL 193 yL_choices, .static yL_choices, .methodLink RL 195 yX8_choices, .instanceMethod yX8_choices, .selects RX8 yX8_choices yX8_choices, .methodLink RL 196 yL_isNarrower, .static yL_isNarrower, .methodLink RL 102 yX5_isNarrower, .instanceMethod yX5_isNarrower, .selects RX5 yX5_isNarrower yX5_isNarrower, .methodLink RL 198 yX8_isNarrower, .instanceMethod yX8_isNarrower, .selects RX8 yX8_isNarrower yX8_isNarrower, .methodLink RL 199 yX5_isSound, .methodLink RL 203 yX8_isSound, .instanceMethod yX8_isSound, .selects RX8 yX8_isSound yX8_isSound, .methodLink RL 204 yX5_digest, .instanceMethod yX5_digest, .selects RX5 yX5_digest yX5_digest, .methodLink RL 208 yX8_digest, .instanceMethod yX8_digest, .selects RX8 yX8_digest yX8_digest]
def wLO : List Cond := wB_0 ++ (wB_1 ++ (wB_2 ++ (wB_3 ++ (u_ws RX6 TX6 2))))
def wLAW : List Cond := wLO ++ wALL
theorem iB_0 : ∀ w ∈ wB_0, w ∈ wLAW := fun _ h => List.mem_append_left _ (List.mem_append_left _ h)
theorem iB_1 : ∀ w ∈ wB_1, w ∈ wLAW := fun _ h => List.mem_append_left _ (List.mem_append_right _ (List.mem_append_left _ h))
theorem iB_2 : ∀ w ∈ wB_2, w ∈ wLAW := fun _ h => List.mem_append_left _ (List.mem_append_right _ (List.mem_append_right _ (List.mem_append_left _ h)))
theorem iB_3 : ∀ w ∈ wB_3, w ∈ wLAW := fun _ h => List.mem_append_left _ (List.mem_append_right _ (List.mem_append_right _ (List.mem_append_right _ (List.mem_append_left _ h))))
theorem iUB_X6 : ∀ w ∈ u_ws RX6 TX6 2, w ∈ wLAW := fun _ h => List.mem_append_left _ (List.mem_append_right _ (List.mem_append_right _ (List.mem_append_right _ (List.mem_append_right _ h))))
theorem iB_A : ∀ w ∈ wALL, w ∈ wLAW := fun _ h => List.mem_append_right _ h
theorem B_0 : (Cond.classLink RL 19 "java/lang/IllegalArgumentException" : Cond) ∈ wLAW := iB_0 _ (List.mem_of_getElem? (i := 0) rfl)
theorem B_1 : (Cond.classLink RL 21 "java/lang/IllegalStateException" : Cond) ∈ wLAW := iB_0 _ (List.mem_of_getElem? (i := 1) rfl)
theorem B_2 : (Cond.methodLink RL 7 yX5_field : Cond) ∈ wLAW := iB_0 _ (List.mem_of_getElem? (i := 2) rfl)
theorem B_3 : (Cond.instanceMethod yX5_field : Cond) ∈ wLAW := iB_0 _ (List.mem_of_getElem? (i := 3) rfl)
theorem B_4 : (Cond.selects RX5 yX5_field yX5_field : Cond) ∈ wLAW := iB_0 _ (List.mem_of_getElem? (i := 4) rfl)
theorem B_5 : (Cond.codeWith yL_field cL_field 4 (some .int) [(0, 10, 13, 19), (0, 10, 16, 21)] : Cond) ∈ wLAW := iB_0 _ (List.mem_of_getElem? (i := 5) rfl)
theorem B_6 : (Cond.classLink RL 27 "java/lang/IndexOutOfBoundsException" : Cond) ∈ wLAW := iB_0 _ (List.mem_of_getElem? (i := 6) rfl)
theorem B_7 : (Cond.methodLink RL 23 yX5_oneOf : Cond) ∈ wLAW := iB_0 _ (List.mem_of_getElem? (i := 7) rfl)
theorem B_8 : (Cond.instanceMethod yX5_oneOf : Cond) ∈ wLAW := iB_0 _ (List.mem_of_getElem? (i := 8) rfl)
theorem B_9 : (Cond.selects RX5 yX5_oneOf yX5_oneOf : Cond) ∈ wLAW := iB_0 _ (List.mem_of_getElem? (i := 9) rfl)
theorem B_10 : (Cond.codeWith yL_oneOf cL_oneOf 6 (some .int) [(0, 13, 16, 27), (0, 13, 20, 19), (0, 13, 24, 21)] : Cond) ∈ wLAW := iB_0 _ (List.mem_of_getElem? (i := 10) rfl)
theorem B_11 : (Cond.methodLink RL 29 yX5_bound : Cond) ∈ wLAW := iB_0 _ (List.mem_of_getElem? (i := 11) rfl)
theorem B_12 : (Cond.instanceMethod yX5_bound : Cond) ∈ wLAW := iB_0 _ (List.mem_of_getElem? (i := 12) rfl)
theorem B_13 : (Cond.selects RX5 yX5_bound yX5_bound : Cond) ∈ wLAW := iB_0 _ (List.mem_of_getElem? (i := 13) rfl)
theorem B_14 : (Cond.codeWith yL_bound cL_bound 7 (some .int) [(0, 15, 18, 27), (0, 15, 22, 19), (0, 15, 26, 21)] : Cond) ∈ wLAW := iB_0 _ (List.mem_of_getElem? (i := 14) rfl)
theorem B_15 : (Cond.methodLink RL 33 yX5_more : Cond) ∈ wLAW := iB_0 _ (List.mem_of_getElem? (i := 15) rfl)
theorem B_16 : (Cond.instanceMethod yX5_more : Cond) ∈ wLAW := iB_0 _ (List.mem_of_getElem? (i := 16) rfl)
theorem B_17 : (Cond.selects RX5 yX5_more yX5_more : Cond) ∈ wLAW := iB_0 _ (List.mem_of_getElem? (i := 17) rfl)
theorem B_18 : (Cond.codeWith yL_more cL_more 7 (some .int) [(0, 15, 18, 27), (0, 15, 22, 19), (0, 15, 26, 21)] : Cond) ∈ wLAW := iB_0 _ (List.mem_of_getElem? (i := 18) rfl)
theorem B_19 : (Cond.methodLink RL 37 yX5_unlike : Cond) ∈ wLAW := iB_0 _ (List.mem_of_getElem? (i := 19) rfl)
theorem B_20 : (Cond.instanceMethod yX5_unlike : Cond) ∈ wLAW := iB_0 _ (List.mem_of_getElem? (i := 20) rfl)
theorem B_21 : (Cond.selects RX5 yX5_unlike yX5_unlike : Cond) ∈ wLAW := iB_0 _ (List.mem_of_getElem? (i := 21) rfl)
theorem B_22 : (Cond.codeWith yL_unlike cL_unlike 6 (some .int) [(0, 13, 16, 27), (0, 13, 20, 19), (0, 13, 24, 21)] : Cond) ∈ wLAW := iB_0 _ (List.mem_of_getElem? (i := 22) rfl)
theorem B_23 : (Cond.methodLink RL 40 yX5_preset : Cond) ∈ wLAW := iB_0 _ (List.mem_of_getElem? (i := 23) rfl)
theorem B_24 : (Cond.instanceMethod yX5_preset : Cond) ∈ wLAW := iB_0 _ (List.mem_of_getElem? (i := 24) rfl)
theorem B_25 : (Cond.selects RX5 yX5_preset yX5_preset : Cond) ∈ wLAW := iB_0 _ (List.mem_of_getElem? (i := 25) rfl)
theorem B_26 : (Cond.codeWith yL_preset cL_preset 7 (some .int) [(0, 15, 18, 27), (0, 15, 22, 19), (0, 15, 26, 21)] : Cond) ∈ wLAW := iB_0 _ (List.mem_of_getElem? (i := 26) rfl)
theorem B_27 : (Cond.methodLink RL 43 yX5_approve : Cond) ∈ wLAW := iB_0 _ (List.mem_of_getElem? (i := 27) rfl)
theorem B_28 : (Cond.instanceMethod yX5_approve : Cond) ∈ wLAW := iB_0 _ (List.mem_of_getElem? (i := 28) rfl)
theorem B_29 : (Cond.selects RX5 yX5_approve yX5_approve : Cond) ∈ wLAW := iB_0 _ (List.mem_of_getElem? (i := 29) rfl)
theorem B_30 : (Cond.codeWith yL_approve cL_approve 5 (some .int) [(0, 18, 21, 27)] : Cond) ∈ wLAW := iB_0 _ (List.mem_of_getElem? (i := 30) rfl)
theorem B_31 : (Cond.methodLink RL 47 yX5_withdraw : Cond) ∈ wLAW := iB_0 _ (List.mem_of_getElem? (i := 31) rfl)
theorem B_32 : (Cond.instanceMethod yX5_withdraw : Cond) ∈ wLAW := iB_0 _ (List.mem_of_getElem? (i := 32) rfl)
theorem B_33 : (Cond.selects RX5 yX5_withdraw yX5_withdraw : Cond) ∈ wLAW := iB_0 _ (List.mem_of_getElem? (i := 33) rfl)
theorem B_34 : (Cond.codeWith yL_withdraw cL_withdraw 5 (some .int) [(0, 18, 21, 27)] : Cond) ∈ wLAW := iB_0 _ (List.mem_of_getElem? (i := 34) rfl)
theorem B_35 : (Cond.methodLink RL 50 yX5_weight : Cond) ∈ wLAW := iB_0 _ (List.mem_of_getElem? (i := 35) rfl)
theorem B_36 : (Cond.instanceMethod yX5_weight : Cond) ∈ wLAW := iB_0 _ (List.mem_of_getElem? (i := 36) rfl)
theorem B_37 : (Cond.selects RX5 yX5_weight yX5_weight : Cond) ∈ wLAW := iB_0 _ (List.mem_of_getElem? (i := 37) rfl)
theorem B_38 : (Cond.codeWith yL_weight cL_weight 5 (some .int) [(0, 11, 14, 27), (0, 11, 18, 19)] : Cond) ∈ wLAW := iB_0 _ (List.mem_of_getElem? (i := 38) rfl)
theorem B_39 : (Cond.methodLink RL 54 yX5_commit : Cond) ∈ wLAW := iB_0 _ (List.mem_of_getElem? (i := 39) rfl)
theorem B_40 : (Cond.instanceMethod yX5_commit : Cond) ∈ wLAW := iB_0 _ (List.mem_of_getElem? (i := 40) rfl)
theorem B_41 : (Cond.selects RX5 yX5_commit yX5_commit : Cond) ∈ wLAW := iB_0 _ (List.mem_of_getElem? (i := 41) rfl)
theorem B_42 : (Cond.codeWith yL_commit cL_commit 3 (some .int) [(0, 9, 12, 21)] : Cond) ∈ wLAW := iB_0 _ (List.mem_of_getElem? (i := 42) rfl)
theorem B_43 : (Cond.methodLink RL 58 yX5_wave : Cond) ∈ wLAW := iB_0 _ (List.mem_of_getElem? (i := 43) rfl)
theorem B_44 : (Cond.instanceMethod yX5_wave : Cond) ∈ wLAW := iB_0 _ (List.mem_of_getElem? (i := 44) rfl)
theorem B_45 : (Cond.selects RX5 yX5_wave yX5_wave : Cond) ∈ wLAW := iB_0 _ (List.mem_of_getElem? (i := 45) rfl)
theorem B_46 : (Cond.codeWith yL_wave cL_wave 5 (some .int) [(0, 11, 14, 27), (0, 11, 18, 19)] : Cond) ∈ wLAW := iB_0 _ (List.mem_of_getElem? (i := 46) rfl)
theorem B_47 : (Cond.methodLink RL 61 yX5_patch : Cond) ∈ wLAW := iB_0 _ (List.mem_of_getElem? (i := 47) rfl)
theorem B_48 : (Cond.instanceMethod yX5_patch : Cond) ∈ wLAW := iB_0 _ (List.mem_of_getElem? (i := 48) rfl)
theorem B_49 : (Cond.selects RX5 yX5_patch yX5_patch : Cond) ∈ wLAW := iB_0 _ (List.mem_of_getElem? (i := 49) rfl)
theorem B_50 : (Cond.codeWith yL_patch cL_patch 6 (some .int) [(0, 13, 16, 27), (0, 13, 20, 19)] : Cond) ∈ wLAW := iB_0 _ (List.mem_of_getElem? (i := 50) rfl)
theorem B_51 : (Cond.methodLink RL 64 yX5_absorb : Cond) ∈ wLAW := iB_0 _ (List.mem_of_getElem? (i := 51) rfl)
theorem B_52 : (Cond.instanceMethod yX5_absorb : Cond) ∈ wLAW := iB_0 _ (List.mem_of_getElem? (i := 52) rfl)
theorem B_53 : (Cond.selects RX5 yX5_absorb yX5_absorb : Cond) ∈ wLAW := iB_0 _ (List.mem_of_getElem? (i := 53) rfl)
theorem B_54 : (Cond.codeWith yL_absorb cL_absorb 5 (some .int) [(0, 11, 14, 27), (0, 11, 18, 21)] : Cond) ∈ wLAW := iB_0 _ (List.mem_of_getElem? (i := 54) rfl)
theorem B_55 : (Cond.methodLink RL 67 yX5_ofField : Cond) ∈ wLAW := iB_0 _ (List.mem_of_getElem? (i := 55) rfl)
theorem B_56 : (Cond.codeWith yL_ofField cL_ofField 5 (some .int) [(0, 11, 14, 27), (0, 11, 18, 19)] : Cond) ∈ wLAW := iB_0 _ (List.mem_of_getElem? (i := 56) rfl)
theorem B_57 : (Cond.methodLink RL 70 yX5_ofLine : Cond) ∈ wLAW := iB_0 _ (List.mem_of_getElem? (i := 57) rfl)
theorem B_58 : (Cond.codeWith yL_ofLine cL_ofLine 5 (some .int) [(0, 11, 14, 27), (0, 11, 18, 19)] : Cond) ∈ wLAW := iB_0 _ (List.mem_of_getElem? (i := 58) rfl)
theorem B_59 : (Cond.methodLink RL 73 yX5_ofMachine : Cond) ∈ wLAW := iB_0 _ (List.mem_of_getElem? (i := 59) rfl)
theorem B_60 : (Cond.codeWith yL_ofMachine cL_ofMachine 5 (some .int) [(0, 11, 14, 27), (0, 11, 18, 19)] : Cond) ∈ wLAW := iB_1 _ (List.mem_of_getElem? (i := 0) rfl)
theorem B_61 : (Cond.codeWith yL_has cL_has 5 (some .int) [(0, 11, 14, 27)] : Cond) ∈ wLAW := iB_1 _ (List.mem_of_getElem? (i := 1) rfl)
theorem B_62 : (Cond.codeWith yL_ofCommit cL_ofCommit 5 (some .int) [(0, 11, 14, 27)] : Cond) ∈ wLAW := iB_1 _ (List.mem_of_getElem? (i := 2) rfl)
theorem B_63 : (Cond.methodLink RL 82 yX5_house : Cond) ∈ wLAW := iB_1 _ (List.mem_of_getElem? (i := 3) rfl)
theorem B_64 : (Cond.codeWith yL_house cL_house 4 (some .int) [(0, 10, 13, 19)] : Cond) ∈ wLAW := iB_1 _ (List.mem_of_getElem? (i := 4) rfl)
theorem B_65 : (Cond.methodLink RL 85 yX5_value : Cond) ∈ wLAW := iB_1 _ (List.mem_of_getElem? (i := 5) rfl)
theorem B_66 : (Cond.instanceMethod yX5_value : Cond) ∈ wLAW := iB_1 _ (List.mem_of_getElem? (i := 6) rfl)
theorem B_67 : (Cond.selects RX5 yX5_value yX5_value : Cond) ∈ wLAW := iB_1 _ (List.mem_of_getElem? (i := 7) rfl)
theorem B_68 : (Cond.codeWith yL_value cL_value 4 (some .int) [(0, 9, 12, 27)] : Cond) ∈ wLAW := iB_1 _ (List.mem_of_getElem? (i := 8) rfl)
theorem B_69 : (Cond.methodLink RL 93 yX5_reason : Cond) ∈ wLAW := iB_1 _ (List.mem_of_getElem? (i := 9) rfl)
theorem B_70 : (Cond.codeWith yL_reason cL_reason 4 (some .int) [(0, 10, 13, 27)] : Cond) ∈ wLAW := iB_1 _ (List.mem_of_getElem? (i := 10) rfl)
theorem B_71 : (Cond.methodLink RL 96 yX5_met : Cond) ∈ wLAW := iB_1 _ (List.mem_of_getElem? (i := 11) rfl)
theorem B_72 : (Cond.instanceMethod yX5_met : Cond) ∈ wLAW := iB_1 _ (List.mem_of_getElem? (i := 12) rfl)
theorem B_73 : (Cond.selects RX5 yX5_met yX5_met : Cond) ∈ wLAW := iB_1 _ (List.mem_of_getElem? (i := 13) rfl)
theorem B_74 : (Cond.codeWith yL_met cL_met 5 (some .int) [(0, 11, 14, 27), (0, 11, 18, 19)] : Cond) ∈ wLAW := iB_1 _ (List.mem_of_getElem? (i := 14) rfl)
theorem B_75 : (Cond.methodLink RL 99 yX5_choices : Cond) ∈ wLAW := iB_1 _ (List.mem_of_getElem? (i := 15) rfl)
theorem B_76 : (Cond.instanceMethod yX5_choices : Cond) ∈ wLAW := iB_1 _ (List.mem_of_getElem? (i := 16) rfl)
theorem B_77 : (Cond.selects RX5 yX5_choices yX5_choices : Cond) ∈ wLAW := iB_1 _ (List.mem_of_getElem? (i := 17) rfl)
theorem B_78 : (Cond.codeWith yL_choices cL_choices 5 (some .int) [(0, 11, 14, 27), (0, 11, 18, 19)] : Cond) ∈ wLAW := iB_1 _ (List.mem_of_getElem? (i := 18) rfl)
theorem B_79 : (Cond.codeWith yL_isNarrower cL_isNarrower 5 (some .int) [(0, 18, 21, 27)] : Cond) ∈ wLAW := iB_1 _ (List.mem_of_getElem? (i := 19) rfl)
theorem B_80 : (Cond.classLink RL 8 RX5 : Cond) ∈ wLAW := iB_1 _ (List.mem_of_getElem? (i := 20) rfl)
theorem B_81 : (Cond.instantiable RX5 4 : Cond) ∈ wLAW := iB_1 _ (List.mem_of_getElem? (i := 21) rfl)
theorem B_82 : (Cond.classLink RL 107 RX8 : Cond) ∈ wLAW := iB_1 _ (List.mem_of_getElem? (i := 22) rfl)
theorem B_83 : (Cond.instantiable RX8 15 : Cond) ∈ wLAW := iB_1 _ (List.mem_of_getElem? (i := 23) rfl)
theorem B_84 : (Cond.classLink RL 14 RX6 : Cond) ∈ wLAW := iB_1 _ (List.mem_of_getElem? (i := 24) rfl)
theorem B_85 : (Cond.instantiable RX6 2 : Cond) ∈ wLAW := iB_1 _ (List.mem_of_getElem? (i := 25) rfl)
theorem B_86 : (Cond.initialized RX6 : Cond) ∈ wLAW := iB_1 _ (List.mem_of_getElem? (i := 26) rfl)
theorem B_87 : (Cond.methodLink RL 106 yX5_init : Cond) ∈ wLAW := iB_1 _ (List.mem_of_getElem? (i := 27) rfl)
theorem B_88 : (Cond.instanceMethod yX5_init : Cond) ∈ wLAW := iB_1 _ (List.mem_of_getElem? (i := 28) rfl)
theorem B_89 : (Cond.methodLink RL 109 yX8_init : Cond) ∈ wLAW := iB_1 _ (List.mem_of_getElem? (i := 29) rfl)
theorem B_90 : (Cond.instanceMethod yX8_init : Cond) ∈ wLAW := iB_1 _ (List.mem_of_getElem? (i := 30) rfl)
theorem B_91 : (Cond.instanceMethod yX6_init : Cond) ∈ wLAW := iB_1 _ (List.mem_of_getElem? (i := 31) rfl)
theorem B_92 : (Cond.methodLink RL 111 yL_field : Cond) ∈ wLAW := iB_1 _ (List.mem_of_getElem? (i := 32) rfl)
theorem B_93 : (Cond.static yL_field : Cond) ∈ wLAW := iB_1 _ (List.mem_of_getElem? (i := 33) rfl)
theorem B_94 : (Cond.initialized RL : Cond) ∈ wLAW := iB_1 _ (List.mem_of_getElem? (i := 34) rfl)
theorem B_95 : (Cond.methodLink RL 116 yX8_field : Cond) ∈ wLAW := iB_1 _ (List.mem_of_getElem? (i := 35) rfl)
theorem B_96 : (Cond.instanceMethod yX8_field : Cond) ∈ wLAW := iB_1 _ (List.mem_of_getElem? (i := 36) rfl)
theorem B_97 : (Cond.selects RX8 yX8_field yX8_field : Cond) ∈ wLAW := iB_1 _ (List.mem_of_getElem? (i := 37) rfl)
theorem B_98 : (Cond.methodLink RL 117 yL_oneOf : Cond) ∈ wLAW := iB_1 _ (List.mem_of_getElem? (i := 38) rfl)
theorem B_99 : (Cond.static yL_oneOf : Cond) ∈ wLAW := iB_1 _ (List.mem_of_getElem? (i := 39) rfl)
theorem B_100 : (Cond.methodLink RL 120 yX8_oneOf : Cond) ∈ wLAW := iB_1 _ (List.mem_of_getElem? (i := 40) rfl)
theorem B_101 : (Cond.instanceMethod yX8_oneOf : Cond) ∈ wLAW := iB_1 _ (List.mem_of_getElem? (i := 41) rfl)
theorem B_102 : (Cond.selects RX8 yX8_oneOf yX8_oneOf : Cond) ∈ wLAW := iB_1 _ (List.mem_of_getElem? (i := 42) rfl)
theorem B_103 : (Cond.methodLink RL 121 yL_bound : Cond) ∈ wLAW := iB_1 _ (List.mem_of_getElem? (i := 43) rfl)
theorem B_104 : (Cond.static yL_bound : Cond) ∈ wLAW := iB_1 _ (List.mem_of_getElem? (i := 44) rfl)
theorem B_105 : (Cond.methodLink RL 124 yX8_bound : Cond) ∈ wLAW := iB_1 _ (List.mem_of_getElem? (i := 45) rfl)
theorem B_106 : (Cond.instanceMethod yX8_bound : Cond) ∈ wLAW := iB_1 _ (List.mem_of_getElem? (i := 46) rfl)
theorem B_107 : (Cond.selects RX8 yX8_bound yX8_bound : Cond) ∈ wLAW := iB_1 _ (List.mem_of_getElem? (i := 47) rfl)
theorem B_108 : (Cond.methodLink RL 125 yL_more : Cond) ∈ wLAW := iB_1 _ (List.mem_of_getElem? (i := 48) rfl)
theorem B_109 : (Cond.static yL_more : Cond) ∈ wLAW := iB_1 _ (List.mem_of_getElem? (i := 49) rfl)
theorem B_110 : (Cond.methodLink RL 128 yX8_more : Cond) ∈ wLAW := iB_1 _ (List.mem_of_getElem? (i := 50) rfl)
theorem B_111 : (Cond.instanceMethod yX8_more : Cond) ∈ wLAW := iB_1 _ (List.mem_of_getElem? (i := 51) rfl)
theorem B_112 : (Cond.selects RX8 yX8_more yX8_more : Cond) ∈ wLAW := iB_1 _ (List.mem_of_getElem? (i := 52) rfl)
theorem B_113 : (Cond.methodLink RL 129 yL_unlike : Cond) ∈ wLAW := iB_1 _ (List.mem_of_getElem? (i := 53) rfl)
theorem B_114 : (Cond.static yL_unlike : Cond) ∈ wLAW := iB_1 _ (List.mem_of_getElem? (i := 54) rfl)
theorem B_115 : (Cond.methodLink RL 131 yX8_unlike : Cond) ∈ wLAW := iB_1 _ (List.mem_of_getElem? (i := 55) rfl)
theorem B_116 : (Cond.instanceMethod yX8_unlike : Cond) ∈ wLAW := iB_1 _ (List.mem_of_getElem? (i := 56) rfl)
theorem B_117 : (Cond.selects RX8 yX8_unlike yX8_unlike : Cond) ∈ wLAW := iB_1 _ (List.mem_of_getElem? (i := 57) rfl)
theorem B_118 : (Cond.methodLink RL 132 yL_preset : Cond) ∈ wLAW := iB_1 _ (List.mem_of_getElem? (i := 58) rfl)
theorem B_119 : (Cond.static yL_preset : Cond) ∈ wLAW := iB_1 _ (List.mem_of_getElem? (i := 59) rfl)
theorem B_120 : (Cond.methodLink RL 134 yX8_preset : Cond) ∈ wLAW := iB_2 _ (List.mem_of_getElem? (i := 0) rfl)
theorem B_121 : (Cond.instanceMethod yX8_preset : Cond) ∈ wLAW := iB_2 _ (List.mem_of_getElem? (i := 1) rfl)
theorem B_122 : (Cond.selects RX8 yX8_preset yX8_preset : Cond) ∈ wLAW := iB_2 _ (List.mem_of_getElem? (i := 2) rfl)
theorem B_123 : (Cond.methodLink RL 135 yL_approve : Cond) ∈ wLAW := iB_2 _ (List.mem_of_getElem? (i := 3) rfl)
theorem B_124 : (Cond.static yL_approve : Cond) ∈ wLAW := iB_2 _ (List.mem_of_getElem? (i := 4) rfl)
theorem B_125 : (Cond.methodLink RL 138 yX8_approve : Cond) ∈ wLAW := iB_2 _ (List.mem_of_getElem? (i := 5) rfl)
theorem B_126 : (Cond.instanceMethod yX8_approve : Cond) ∈ wLAW := iB_2 _ (List.mem_of_getElem? (i := 6) rfl)
theorem B_127 : (Cond.selects RX8 yX8_approve yX8_approve : Cond) ∈ wLAW := iB_2 _ (List.mem_of_getElem? (i := 7) rfl)
theorem B_128 : (Cond.methodLink RL 139 yX8_thrown : Cond) ∈ wLAW := iB_2 _ (List.mem_of_getElem? (i := 8) rfl)
theorem B_129 : (Cond.instanceMethod yX8_thrown : Cond) ∈ wLAW := iB_2 _ (List.mem_of_getElem? (i := 9) rfl)
theorem B_130 : (Cond.selects RX8 yX8_thrown yX8_thrown : Cond) ∈ wLAW := iB_2 _ (List.mem_of_getElem? (i := 10) rfl)
theorem B_131 : (Cond.methodLink RL 142 yL_withdraw : Cond) ∈ wLAW := iB_2 _ (List.mem_of_getElem? (i := 11) rfl)
theorem B_132 : (Cond.static yL_withdraw : Cond) ∈ wLAW := iB_2 _ (List.mem_of_getElem? (i := 12) rfl)
theorem B_133 : (Cond.methodLink RL 144 yX8_withdraw : Cond) ∈ wLAW := iB_2 _ (List.mem_of_getElem? (i := 13) rfl)
theorem B_134 : (Cond.instanceMethod yX8_withdraw : Cond) ∈ wLAW := iB_2 _ (List.mem_of_getElem? (i := 14) rfl)
theorem B_135 : (Cond.selects RX8 yX8_withdraw yX8_withdraw : Cond) ∈ wLAW := iB_2 _ (List.mem_of_getElem? (i := 15) rfl)
theorem B_136 : (Cond.methodLink RL 145 yL_weight : Cond) ∈ wLAW := iB_2 _ (List.mem_of_getElem? (i := 16) rfl)
theorem B_137 : (Cond.static yL_weight : Cond) ∈ wLAW := iB_2 _ (List.mem_of_getElem? (i := 17) rfl)
theorem B_138 : (Cond.methodLink RL 148 yX8_weight : Cond) ∈ wLAW := iB_2 _ (List.mem_of_getElem? (i := 18) rfl)
theorem B_139 : (Cond.instanceMethod yX8_weight : Cond) ∈ wLAW := iB_2 _ (List.mem_of_getElem? (i := 19) rfl)
theorem B_140 : (Cond.selects RX8 yX8_weight yX8_weight : Cond) ∈ wLAW := iB_2 _ (List.mem_of_getElem? (i := 20) rfl)
theorem B_141 : (Cond.methodLink RL 149 yL_commit : Cond) ∈ wLAW := iB_2 _ (List.mem_of_getElem? (i := 21) rfl)
theorem B_142 : (Cond.static yL_commit : Cond) ∈ wLAW := iB_2 _ (List.mem_of_getElem? (i := 22) rfl)
theorem B_143 : (Cond.methodLink RL 152 yX8_commit : Cond) ∈ wLAW := iB_2 _ (List.mem_of_getElem? (i := 23) rfl)
theorem B_144 : (Cond.instanceMethod yX8_commit : Cond) ∈ wLAW := iB_2 _ (List.mem_of_getElem? (i := 24) rfl)
theorem B_145 : (Cond.selects RX8 yX8_commit yX8_commit : Cond) ∈ wLAW := iB_2 _ (List.mem_of_getElem? (i := 25) rfl)
theorem B_146 : (Cond.methodLink RL 153 yL_wave : Cond) ∈ wLAW := iB_2 _ (List.mem_of_getElem? (i := 26) rfl)
theorem B_147 : (Cond.static yL_wave : Cond) ∈ wLAW := iB_2 _ (List.mem_of_getElem? (i := 27) rfl)
theorem B_148 : (Cond.methodLink RL 155 yX8_wave : Cond) ∈ wLAW := iB_2 _ (List.mem_of_getElem? (i := 28) rfl)
theorem B_149 : (Cond.instanceMethod yX8_wave : Cond) ∈ wLAW := iB_2 _ (List.mem_of_getElem? (i := 29) rfl)
theorem B_150 : (Cond.selects RX8 yX8_wave yX8_wave : Cond) ∈ wLAW := iB_2 _ (List.mem_of_getElem? (i := 30) rfl)
theorem B_151 : (Cond.methodLink RL 156 yL_patch : Cond) ∈ wLAW := iB_2 _ (List.mem_of_getElem? (i := 31) rfl)
theorem B_152 : (Cond.static yL_patch : Cond) ∈ wLAW := iB_2 _ (List.mem_of_getElem? (i := 32) rfl)
theorem B_153 : (Cond.methodLink RL 158 yX8_patch : Cond) ∈ wLAW := iB_2 _ (List.mem_of_getElem? (i := 33) rfl)
theorem B_154 : (Cond.instanceMethod yX8_patch : Cond) ∈ wLAW := iB_2 _ (List.mem_of_getElem? (i := 34) rfl)
theorem B_155 : (Cond.selects RX8 yX8_patch yX8_patch : Cond) ∈ wLAW := iB_2 _ (List.mem_of_getElem? (i := 35) rfl)
theorem B_156 : (Cond.methodLink RL 159 yL_absorb : Cond) ∈ wLAW := iB_2 _ (List.mem_of_getElem? (i := 36) rfl)
theorem B_157 : (Cond.static yL_absorb : Cond) ∈ wLAW := iB_2 _ (List.mem_of_getElem? (i := 37) rfl)
theorem B_158 : (Cond.methodLink RL 161 yX8_absorb : Cond) ∈ wLAW := iB_2 _ (List.mem_of_getElem? (i := 38) rfl)
theorem B_159 : (Cond.instanceMethod yX8_absorb : Cond) ∈ wLAW := iB_2 _ (List.mem_of_getElem? (i := 39) rfl)
theorem B_160 : (Cond.selects RX8 yX8_absorb yX8_absorb : Cond) ∈ wLAW := iB_2 _ (List.mem_of_getElem? (i := 40) rfl)
theorem B_161 : (Cond.methodLink RL 162 yX5_knock : Cond) ∈ wLAW := iB_2 _ (List.mem_of_getElem? (i := 41) rfl)
theorem B_162 : (Cond.instanceMethod yX5_knock : Cond) ∈ wLAW := iB_2 _ (List.mem_of_getElem? (i := 42) rfl)
theorem B_163 : (Cond.selects RX5 yX5_knock yX5_knock : Cond) ∈ wLAW := iB_2 _ (List.mem_of_getElem? (i := 43) rfl)
theorem B_164 : (Cond.methodLink RL 165 yX8_knock : Cond) ∈ wLAW := iB_2 _ (List.mem_of_getElem? (i := 44) rfl)
theorem B_165 : (Cond.instanceMethod yX8_knock : Cond) ∈ wLAW := iB_2 _ (List.mem_of_getElem? (i := 45) rfl)
theorem B_166 : (Cond.selects RX8 yX8_knock yX8_knock : Cond) ∈ wLAW := iB_2 _ (List.mem_of_getElem? (i := 46) rfl)
theorem B_167 : (Cond.methodLink RL 166 yL_ofField : Cond) ∈ wLAW := iB_2 _ (List.mem_of_getElem? (i := 47) rfl)
theorem B_168 : (Cond.static yL_ofField : Cond) ∈ wLAW := iB_2 _ (List.mem_of_getElem? (i := 48) rfl)
theorem B_169 : (Cond.methodLink RL 168 yX8_ofField : Cond) ∈ wLAW := iB_2 _ (List.mem_of_getElem? (i := 49) rfl)
theorem B_170 : (Cond.instanceMethod yX8_ofField : Cond) ∈ wLAW := iB_2 _ (List.mem_of_getElem? (i := 50) rfl)
theorem B_171 : (Cond.selects RX8 yX8_ofField yX8_ofField : Cond) ∈ wLAW := iB_2 _ (List.mem_of_getElem? (i := 51) rfl)
theorem B_172 : (Cond.methodLink RL 169 yL_ofLine : Cond) ∈ wLAW := iB_2 _ (List.mem_of_getElem? (i := 52) rfl)
theorem B_173 : (Cond.static yL_ofLine : Cond) ∈ wLAW := iB_2 _ (List.mem_of_getElem? (i := 53) rfl)
theorem B_174 : (Cond.methodLink RL 171 yX8_ofLine : Cond) ∈ wLAW := iB_2 _ (List.mem_of_getElem? (i := 54) rfl)
theorem B_175 : (Cond.instanceMethod yX8_ofLine : Cond) ∈ wLAW := iB_2 _ (List.mem_of_getElem? (i := 55) rfl)
theorem B_176 : (Cond.selects RX8 yX8_ofLine yX8_ofLine : Cond) ∈ wLAW := iB_2 _ (List.mem_of_getElem? (i := 56) rfl)
theorem B_177 : (Cond.methodLink RL 172 yL_ofMachine : Cond) ∈ wLAW := iB_2 _ (List.mem_of_getElem? (i := 57) rfl)
theorem B_178 : (Cond.static yL_ofMachine : Cond) ∈ wLAW := iB_2 _ (List.mem_of_getElem? (i := 58) rfl)
theorem B_179 : (Cond.methodLink RL 174 yX8_ofMachine : Cond) ∈ wLAW := iB_2 _ (List.mem_of_getElem? (i := 59) rfl)
theorem B_180 : (Cond.instanceMethod yX8_ofMachine : Cond) ∈ wLAW := iB_3 _ (List.mem_of_getElem? (i := 0) rfl)
theorem B_181 : (Cond.selects RX8 yX8_ofMachine yX8_ofMachine : Cond) ∈ wLAW := iB_3 _ (List.mem_of_getElem? (i := 1) rfl)
theorem B_182 : (Cond.methodLink RL 175 yL_has : Cond) ∈ wLAW := iB_3 _ (List.mem_of_getElem? (i := 2) rfl)
theorem B_183 : (Cond.static yL_has : Cond) ∈ wLAW := iB_3 _ (List.mem_of_getElem? (i := 3) rfl)
theorem B_184 : (Cond.methodLink RL 76 yX5_has : Cond) ∈ wLAW := iB_3 _ (List.mem_of_getElem? (i := 4) rfl)
theorem B_185 : (Cond.methodLink RL 177 yX8_has : Cond) ∈ wLAW := iB_3 _ (List.mem_of_getElem? (i := 5) rfl)
theorem B_186 : (Cond.instanceMethod yX8_has : Cond) ∈ wLAW := iB_3 _ (List.mem_of_getElem? (i := 6) rfl)
theorem B_187 : (Cond.selects RX8 yX8_has yX8_has : Cond) ∈ wLAW := iB_3 _ (List.mem_of_getElem? (i := 7) rfl)
theorem B_188 : (Cond.methodLink RL 178 yL_ofCommit : Cond) ∈ wLAW := iB_3 _ (List.mem_of_getElem? (i := 8) rfl)
theorem B_189 : (Cond.static yL_ofCommit : Cond) ∈ wLAW := iB_3 _ (List.mem_of_getElem? (i := 9) rfl)
theorem B_190 : (Cond.methodLink RL 79 yX5_ofCommit : Cond) ∈ wLAW := iB_3 _ (List.mem_of_getElem? (i := 10) rfl)
theorem B_191 : (Cond.methodLink RL 180 yX8_ofCommit : Cond) ∈ wLAW := iB_3 _ (List.mem_of_getElem? (i := 11) rfl)
theorem B_192 : (Cond.instanceMethod yX8_ofCommit : Cond) ∈ wLAW := iB_3 _ (List.mem_of_getElem? (i := 12) rfl)
theorem B_193 : (Cond.selects RX8 yX8_ofCommit yX8_ofCommit : Cond) ∈ wLAW := iB_3 _ (List.mem_of_getElem? (i := 13) rfl)
theorem B_194 : (Cond.methodLink RL 181 yL_house : Cond) ∈ wLAW := iB_3 _ (List.mem_of_getElem? (i := 14) rfl)
theorem B_195 : (Cond.static yL_house : Cond) ∈ wLAW := iB_3 _ (List.mem_of_getElem? (i := 15) rfl)
theorem B_196 : (Cond.methodLink RL 183 yX8_house : Cond) ∈ wLAW := iB_3 _ (List.mem_of_getElem? (i := 16) rfl)
theorem B_197 : (Cond.instanceMethod yX8_house : Cond) ∈ wLAW := iB_3 _ (List.mem_of_getElem? (i := 17) rfl)
theorem B_198 : (Cond.selects RX8 yX8_house yX8_house : Cond) ∈ wLAW := iB_3 _ (List.mem_of_getElem? (i := 18) rfl)
theorem B_199 : (Cond.methodLink RL 184 yL_value : Cond) ∈ wLAW := iB_3 _ (List.mem_of_getElem? (i := 19) rfl)
theorem B_200 : (Cond.static yL_value : Cond) ∈ wLAW := iB_3 _ (List.mem_of_getElem? (i := 20) rfl)
theorem B_201 : (Cond.methodLink RL 186 yX8_value : Cond) ∈ wLAW := iB_3 _ (List.mem_of_getElem? (i := 21) rfl)
theorem B_202 : (Cond.instanceMethod yX8_value : Cond) ∈ wLAW := iB_3 _ (List.mem_of_getElem? (i := 22) rfl)
theorem B_203 : (Cond.selects RX8 yX8_value yX8_value : Cond) ∈ wLAW := iB_3 _ (List.mem_of_getElem? (i := 23) rfl)
theorem B_204 : (Cond.methodLink RL 187 yL_reason : Cond) ∈ wLAW := iB_3 _ (List.mem_of_getElem? (i := 24) rfl)
theorem B_205 : (Cond.static yL_reason : Cond) ∈ wLAW := iB_3 _ (List.mem_of_getElem? (i := 25) rfl)
theorem B_206 : (Cond.methodLink RL 189 yX8_reason : Cond) ∈ wLAW := iB_3 _ (List.mem_of_getElem? (i := 26) rfl)
theorem B_207 : (Cond.instanceMethod yX8_reason : Cond) ∈ wLAW := iB_3 _ (List.mem_of_getElem? (i := 27) rfl)
theorem B_208 : (Cond.selects RX8 yX8_reason yX8_reason : Cond) ∈ wLAW := iB_3 _ (List.mem_of_getElem? (i := 28) rfl)
theorem B_209 : (Cond.methodLink RL 190 yL_met : Cond) ∈ wLAW := iB_3 _ (List.mem_of_getElem? (i := 29) rfl)
theorem B_210 : (Cond.static yL_met : Cond) ∈ wLAW := iB_3 _ (List.mem_of_getElem? (i := 30) rfl)
theorem B_211 : (Cond.methodLink RL 192 yX8_met : Cond) ∈ wLAW := iB_3 _ (List.mem_of_getElem? (i := 31) rfl)
theorem B_212 : (Cond.instanceMethod yX8_met : Cond) ∈ wLAW := iB_3 _ (List.mem_of_getElem? (i := 32) rfl)
theorem B_213 : (Cond.selects RX8 yX8_met yX8_met : Cond) ∈ wLAW := iB_3 _ (List.mem_of_getElem? (i := 33) rfl)
theorem B_214 : (Cond.methodLink RL 193 yL_choices : Cond) ∈ wLAW := iB_3 _ (List.mem_of_getElem? (i := 34) rfl)
theorem B_215 : (Cond.static yL_choices : Cond) ∈ wLAW := iB_3 _ (List.mem_of_getElem? (i := 35) rfl)
theorem B_216 : (Cond.methodLink RL 195 yX8_choices : Cond) ∈ wLAW := iB_3 _ (List.mem_of_getElem? (i := 36) rfl)
theorem B_217 : (Cond.instanceMethod yX8_choices : Cond) ∈ wLAW := iB_3 _ (List.mem_of_getElem? (i := 37) rfl)
theorem B_218 : (Cond.selects RX8 yX8_choices yX8_choices : Cond) ∈ wLAW := iB_3 _ (List.mem_of_getElem? (i := 38) rfl)
theorem B_219 : (Cond.methodLink RL 196 yL_isNarrower : Cond) ∈ wLAW := iB_3 _ (List.mem_of_getElem? (i := 39) rfl)
theorem B_220 : (Cond.static yL_isNarrower : Cond) ∈ wLAW := iB_3 _ (List.mem_of_getElem? (i := 40) rfl)
theorem B_221 : (Cond.methodLink RL 102 yX5_isNarrower : Cond) ∈ wLAW := iB_3 _ (List.mem_of_getElem? (i := 41) rfl)
theorem B_222 : (Cond.instanceMethod yX5_isNarrower : Cond) ∈ wLAW := iB_3 _ (List.mem_of_getElem? (i := 42) rfl)
theorem B_223 : (Cond.selects RX5 yX5_isNarrower yX5_isNarrower : Cond) ∈ wLAW := iB_3 _ (List.mem_of_getElem? (i := 43) rfl)
theorem B_224 : (Cond.methodLink RL 198 yX8_isNarrower : Cond) ∈ wLAW := iB_3 _ (List.mem_of_getElem? (i := 44) rfl)
theorem B_225 : (Cond.instanceMethod yX8_isNarrower : Cond) ∈ wLAW := iB_3 _ (List.mem_of_getElem? (i := 45) rfl)
theorem B_226 : (Cond.selects RX8 yX8_isNarrower yX8_isNarrower : Cond) ∈ wLAW := iB_3 _ (List.mem_of_getElem? (i := 46) rfl)
theorem B_227 : (Cond.methodLink RL 199 yX5_isSound : Cond) ∈ wLAW := iB_3 _ (List.mem_of_getElem? (i := 47) rfl)
theorem B_228 : (Cond.methodLink RL 203 yX8_isSound : Cond) ∈ wLAW := iB_3 _ (List.mem_of_getElem? (i := 48) rfl)
theorem B_229 : (Cond.instanceMethod yX8_isSound : Cond) ∈ wLAW := iB_3 _ (List.mem_of_getElem? (i := 49) rfl)
theorem B_230 : (Cond.selects RX8 yX8_isSound yX8_isSound : Cond) ∈ wLAW := iB_3 _ (List.mem_of_getElem? (i := 50) rfl)
theorem B_231 : (Cond.methodLink RL 204 yX5_digest : Cond) ∈ wLAW := iB_3 _ (List.mem_of_getElem? (i := 51) rfl)
theorem B_232 : (Cond.instanceMethod yX5_digest : Cond) ∈ wLAW := iB_3 _ (List.mem_of_getElem? (i := 52) rfl)
theorem B_233 : (Cond.selects RX5 yX5_digest yX5_digest : Cond) ∈ wLAW := iB_3 _ (List.mem_of_getElem? (i := 53) rfl)
theorem B_234 : (Cond.methodLink RL 208 yX8_digest : Cond) ∈ wLAW := iB_3 _ (List.mem_of_getElem? (i := 54) rfl)
theorem B_235 : (Cond.instanceMethod yX8_digest : Cond) ∈ wLAW := iB_3 _ (List.mem_of_getElem? (i := 55) rfl)
theorem B_236 : (Cond.selects RX8 yX8_digest yX8_digest : Cond) ∈ wLAW := iB_3 _ (List.mem_of_getElem? (i := 56) rfl)
theorem gLAW : ∀ w ∈ wLAW, goodWord w = true := fun w h => (List.mem_append.mp h).elim (fun h => List.all_eq_true.mp (by decide +kernel) w h) (gALL w)
theorem gB {a : Cond} {ws : List Cond} (h : ∀ w ∈ ws, w ∈ wLAW) : GoodIn (a :: wLAW) ws := fun w hw => ⟨List.mem_cons_of_mem _ (h w hw), good_of_word (gLAW w (h w hw))⟩
theorem gB_V {a c : Cond} {own C : String} {idx : Nat} {y : MethodName} (h1 : Cond.methodLink own idx y ∈ wLAW) (h2 : Cond.instanceMethod y ∈ wLAW) (h3 : Cond.selects C y y ∈ wLAW) (h4 : Cond.initialized C ∈ wLAW) (hc : c ∈ wLAW) : GoodIn (a :: wLAW) (wsV own idx C y (c :: wALL)) := gB (by
  intro w hw
  rcases List.mem_append.mp hw with h | h
  · rcases List.mem_cons.mp h with rfl | h
    · exact h1
    · rcases List.mem_cons.mp h with rfl | h
      · exact h2
      · rcases List.mem_cons.mp h with rfl | h
        · exact h3
        · rcases List.mem_cons.mp h with rfl | h
          · exact h4
          · simp at h
  · exact (List.mem_cons.mp h).elim (fun e => e ▸ hc) (iB_A w))

