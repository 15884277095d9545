abbrev cX3_in : ByteArray := prog_5_method_3_code
abbrev yX3_in : MethodName := ⟨"ClassGroupModel", "in", "(JJJ)Z"⟩
abbrev wsX3_in : List Cond := .code ⟨"ClassGroupModel", "in", "(JJJ)Z"⟩ prog_5_method_3_code 6 (some .boolean) :: wT
theorem dX3_in_0 : decode cX3_in 0 = .ok (.lload_n 0, 1) := by decide +kernel
theorem dX3_in_1 : decode cX3_in 1 = .ok (.lload_n 2, 1) := by decide +kernel
theorem dX3_in_2 : decode cX3_in 2 = .ok (.lcmp, 1) := by decide +kernel
theorem dX3_in_3 : decode cX3_in 3 = .ok (.ifCond .lt 14, 3) := by decide +kernel
theorem dX3_in_6 : decode cX3_in 6 = .ok (.lload_n 0, 1) := by decide +kernel
theorem dX3_in_7 : decode cX3_in 7 = .ok (.lload 4, 2) := by decide +kernel
theorem dX3_in_9 : decode cX3_in 9 = .ok (.lcmp, 1) := by decide +kernel
theorem dX3_in_10 : decode cX3_in 10 = .ok (.ifCond .gt 7, 3) := by decide +kernel
theorem dX3_in_13 : decode cX3_in 13 = .ok (.iconst 1, 1) := by decide +kernel
theorem dX3_in_14 : decode cX3_in 14 = .ok (.goto 4, 3) := by decide +kernel
theorem dX3_in_17 : decode cX3_in 17 = .ok (.iconst 0, 1) := by decide +kernel
theorem dX3_in_18 : decode cX3_in 18 = .ok (.ireturn, 1) := by decide +kernel
abbrev cX3_size : ByteArray := prog_5_method_4_code
abbrev yX3_size : MethodName := ⟨"ClassGroupModel", "size", "(J)J"⟩
abbrev wsX3_size : List Cond := .code ⟨"ClassGroupModel", "size", "(J)J"⟩ prog_5_method_4_code 2 (some .long) :: wT
theorem dX3_size_0 : decode cX3_size 0 = .ok (.lload_n 0, 1) := by decide +kernel
theorem dX3_size_1 : decode cX3_size 1 = .ok (.lconst 0, 1) := by decide +kernel
theorem dX3_size_2 : decode cX3_size 2 = .ok (.lcmp, 1) := by decide +kernel
theorem dX3_size_3 : decode cX3_size 3 = .ok (.ifCond .ge 8, 3) := by decide +kernel
theorem dX3_size_6 : decode cX3_size 6 = .ok (.lload_n 0, 1) := by decide +kernel
theorem dX3_size_7 : decode cX3_size 7 = .ok (.lneg, 1) := by decide +kernel
theorem dX3_size_8 : decode cX3_size 8 = .ok (.goto 4, 3) := by decide +kernel
theorem dX3_size_11 : decode cX3_size 11 = .ok (.lload_n 0, 1) := by decide +kernel
theorem dX3_size_12 : decode cX3_size 12 = .ok (.lreturn, 1) := by decide +kernel
abbrev cX3_common : ByteArray := prog_5_method_5_code
abbrev yX3_common : MethodName := ⟨"ClassGroupModel", "common", "(JJ)J"⟩
abbrev wsX3_common : List Cond := .code ⟨"ClassGroupModel", "common", "(JJ)J"⟩ prog_5_method_5_code 10 (some .long) :: wT
theorem dX3_common_0 : decode cX3_common 0 = .ok (.lload_n 0, 1) := by decide +kernel
theorem dX3_common_1 : decode cX3_common 1 = .ok (.invokestatic 50, 3) := by decide +kernel
theorem dX3_common_4 : decode cX3_common 4 = .ok (.lstore 4, 2) := by decide +kernel
theorem dX3_common_6 : decode cX3_common 6 = .ok (.lload_n 2, 1) := by decide +kernel
theorem dX3_common_7 : decode cX3_common 7 = .ok (.invokestatic 50, 3) := by decide +kernel
theorem dX3_common_10 : decode cX3_common 10 = .ok (.lstore 6, 2) := by decide +kernel
theorem dX3_common_12 : decode cX3_common 12 = .ok (.lload 6, 2) := by decide +kernel
theorem dX3_common_14 : decode cX3_common 14 = .ok (.lconst 0, 1) := by decide +kernel
theorem dX3_common_15 : decode cX3_common 15 = .ok (.lcmp, 1) := by decide +kernel
theorem dX3_common_16 : decode cX3_common 16 = .ok (.ifCond .le 21, 3) := by decide +kernel
theorem dX3_common_19 : decode cX3_common 19 = .ok (.lload 4, 2) := by decide +kernel
theorem dX3_common_21 : decode cX3_common 21 = .ok (.lload 6, 2) := by decide +kernel
theorem dX3_common_23 : decode cX3_common 23 = .ok (.lrem, 1) := by decide +kernel
theorem dX3_common_24 : decode cX3_common 24 = .ok (.lstore 8, 2) := by decide +kernel
theorem dX3_common_26 : decode cX3_common 26 = .ok (.lload 6, 2) := by decide +kernel
theorem dX3_common_28 : decode cX3_common 28 = .ok (.lstore 4, 2) := by decide +kernel
theorem dX3_common_30 : decode cX3_common 30 = .ok (.lload 8, 2) := by decide +kernel
theorem dX3_common_32 : decode cX3_common 32 = .ok (.lstore 6, 2) := by decide +kernel
theorem dX3_common_34 : decode cX3_common 34 = .ok (.goto (-22), 3) := by decide +kernel
theorem dX3_common_37 : decode cX3_common 37 = .ok (.lload 4, 2) := by decide +kernel
theorem dX3_common_39 : decode cX3_common 39 = .ok (.lreturn, 1) := by decide +kernel
abbrev cX3_wholeRoot : ByteArray := prog_5_method_6_code
abbrev yX3_wholeRoot : MethodName := ⟨"ClassGroupModel", "wholeRoot", "(J)J"⟩
abbrev wsX3_wholeRoot : List Cond := .code ⟨"ClassGroupModel", "wholeRoot", "(J)J"⟩ prog_5_method_6_code 4 (some .long) :: wT
theorem dX3_wholeRoot_0 : decode cX3_wholeRoot 0 = .ok (.lconst 0, 1) := by decide +kernel
theorem dX3_wholeRoot_1 : decode cX3_wholeRoot 1 = .ok (.lstore_n 2, 1) := by decide +kernel
theorem dX3_wholeRoot_2 : decode cX3_wholeRoot 2 = .ok (.lload_n 2, 1) := by decide +kernel
theorem dX3_wholeRoot_3 : decode cX3_wholeRoot 3 = .ok (.lconst 1, 1) := by decide +kernel
theorem dX3_wholeRoot_4 : decode cX3_wholeRoot 4 = .ok (.ladd, 1) := by decide +kernel
theorem dX3_wholeRoot_5 : decode cX3_wholeRoot 5 = .ok (.lload_n 2, 1) := by decide +kernel
theorem dX3_wholeRoot_6 : decode cX3_wholeRoot 6 = .ok (.lconst 1, 1) := by decide +kernel
theorem dX3_wholeRoot_7 : decode cX3_wholeRoot 7 = .ok (.ladd, 1) := by decide +kernel
theorem dX3_wholeRoot_8 : decode cX3_wholeRoot 8 = .ok (.lmul, 1) := by decide +kernel
theorem dX3_wholeRoot_9 : decode cX3_wholeRoot 9 = .ok (.lload_n 0, 1) := by decide +kernel
theorem dX3_wholeRoot_10 : decode cX3_wholeRoot 10 = .ok (.lcmp, 1) := by decide +kernel
theorem dX3_wholeRoot_11 : decode cX3_wholeRoot 11 = .ok (.ifCond .gt 10, 3) := by decide +kernel
theorem dX3_wholeRoot_14 : decode cX3_wholeRoot 14 = .ok (.lload_n 2, 1) := by decide +kernel
theorem dX3_wholeRoot_15 : decode cX3_wholeRoot 15 = .ok (.lconst 1, 1) := by decide +kernel
theorem dX3_wholeRoot_16 : decode cX3_wholeRoot 16 = .ok (.ladd, 1) := by decide +kernel
theorem dX3_wholeRoot_17 : decode cX3_wholeRoot 17 = .ok (.lstore_n 2, 1) := by decide +kernel
theorem dX3_wholeRoot_18 : decode cX3_wholeRoot 18 = .ok (.goto (-16), 3) := by decide +kernel
theorem dX3_wholeRoot_21 : decode cX3_wholeRoot 21 = .ok (.lload_n 2, 1) := by decide +kernel
theorem dX3_wholeRoot_22 : decode cX3_wholeRoot 22 = .ok (.lreturn, 1) := by decide +kernel
abbrev cX3_thrown : ByteArray := prog_5_method_2_code
abbrev yX3_thrown : MethodName := ⟨"ClassGroupModel", "thrown", "()I"⟩
abbrev wsX3_thrown : List Cond := .code ⟨"ClassGroupModel", "thrown", "()I"⟩ prog_5_method_2_code 1 (some .int) :: wT
theorem dX3_thrown_0 : decode cX3_thrown 0 = .ok (.aload_n 0, 1) := by decide +kernel
theorem dX3_thrown_1 : decode cX3_thrown 1 = .ok (.getfield 46, 3) := by decide +kernel
theorem dX3_thrown_4 : decode cX3_thrown 4 = .ok (.ireturn, 1) := by decide +kernel
abbrev cX3_be : ByteArray := prog_5_method_7_code
abbrev yX3_be : MethodName := ⟨"ClassGroupModel", "be", "(JJ)V"⟩
abbrev wsX3_be : List Cond := .code ⟨"ClassGroupModel", "be", "(JJ)V"⟩ prog_5_method_7_code 5 none :: wT
theorem dX3_be_0 : decode cX3_be 0 = .ok (.aload_n 0, 1) := by decide +kernel
theorem dX3_be_1 : decode cX3_be 1 = .ok (.lload_n 1, 1) := by decide +kernel
theorem dX3_be_2 : decode cX3_be 2 = .ok (.putfield 54, 3) := by decide +kernel
theorem dX3_be_5 : decode cX3_be 5 = .ok (.aload_n 0, 1) := by decide +kernel
theorem dX3_be_6 : decode cX3_be 6 = .ok (.lload_n 3, 1) := by decide +kernel
theorem dX3_be_7 : decode cX3_be 7 = .ok (.putfield 58, 3) := by decide +kernel
theorem dX3_be_10 : decode cX3_be 10 = .ok (.aload_n 0, 1) := by decide +kernel
theorem dX3_be_11 : decode cX3_be 11 = .ok (.lload_n 3, 1) := by decide +kernel
theorem dX3_be_12 : decode cX3_be 12 = .ok (.lload_n 3, 1) := by decide +kernel
theorem dX3_be_13 : decode cX3_be 13 = .ok (.lmul, 1) := by decide +kernel
theorem dX3_be_14 : decode cX3_be 14 = .ok (.aload_n 0, 1) := by decide +kernel
theorem dX3_be_15 : decode cX3_be 15 = .ok (.getfield 61, 3) := by decide +kernel
theorem dX3_be_18 : decode cX3_be 18 = .ok (.lsub, 1) := by decide +kernel
theorem dX3_be_19 : decode cX3_be 19 = .ok (.ldc2_w 64, 3) := by decide +kernel
theorem dX3_be_22 : decode cX3_be 22 = .ok (.lload_n 1, 1) := by decide +kernel
theorem dX3_be_23 : decode cX3_be 23 = .ok (.lmul, 1) := by decide +kernel
theorem dX3_be_24 : decode cX3_be 24 = .ok (.ldiv, 1) := by decide +kernel
theorem dX3_be_25 : decode cX3_be 25 = .ok (.putfield 66, 3) := by decide +kernel
theorem dX3_be_28 : decode cX3_be 28 = .ok (.return_, 1) := by decide +kernel
abbrev cX3_isReduced : ByteArray := prog_5_method_8_code
abbrev yX3_isReduced : MethodName := ⟨"ClassGroupModel", "isReduced", "()Z"⟩
abbrev wsX3_isReduced : List Cond := .code ⟨"ClassGroupModel", "isReduced", "()Z"⟩ prog_5_method_8_code 1 (some .boolean) :: wT
theorem dX3_isReduced_0 : decode cX3_isReduced 0 = .ok (.aload_n 0, 1) := by decide +kernel
theorem dX3_isReduced_1 : decode cX3_isReduced 1 = .ok (.getfield 61, 3) := by decide +kernel
theorem dX3_isReduced_4 : decode cX3_isReduced 4 = .ok (.lconst 0, 1) := by decide +kernel
theorem dX3_isReduced_5 : decode cX3_isReduced 5 = .ok (.lcmp, 1) := by decide +kernel
theorem dX3_isReduced_6 : decode cX3_isReduced 6 = .ok (.ifCond .ge 70, 3) := by decide +kernel
theorem dX3_isReduced_9 : decode cX3_isReduced 9 = .ok (.aload_n 0, 1) := by decide +kernel
theorem dX3_isReduced_10 : decode cX3_isReduced 10 = .ok (.getfield 58, 3) := by decide +kernel
theorem dX3_isReduced_13 : decode cX3_isReduced 13 = .ok (.invokestatic 50, 3) := by decide +kernel
theorem dX3_isReduced_16 : decode cX3_isReduced 16 = .ok (.aload_n 0, 1) := by decide +kernel
theorem dX3_isReduced_17 : decode cX3_isReduced 17 = .ok (.getfield 54, 3) := by decide +kernel
theorem dX3_isReduced_20 : decode cX3_isReduced 20 = .ok (.lcmp, 1) := by decide +kernel
theorem dX3_isReduced_21 : decode cX3_isReduced 21 = .ok (.ifCond .gt 53, 3) := by decide +kernel
theorem dX3_isReduced_24 : decode cX3_isReduced 24 = .ok (.aload_n 0, 1) := by decide +kernel
theorem dX3_isReduced_25 : decode cX3_isReduced 25 = .ok (.getfield 54, 3) := by decide +kernel
theorem dX3_isReduced_28 : decode cX3_isReduced 28 = .ok (.aload_n 0, 1) := by decide +kernel
theorem dX3_isReduced_29 : decode cX3_isReduced 29 = .ok (.getfield 66, 3) := by decide +kernel
theorem dX3_isReduced_32 : decode cX3_isReduced 32 = .ok (.lcmp, 1) := by decide +kernel
theorem dX3_isReduced_33 : decode cX3_isReduced 33 = .ok (.ifCond .gt 41, 3) := by decide +kernel
theorem dX3_isReduced_36 : decode cX3_isReduced 36 = .ok (.aload_n 0, 1) := by decide +kernel
theorem dX3_isReduced_37 : decode cX3_isReduced 37 = .ok (.getfield 58, 3) := by decide +kernel
theorem dX3_isReduced_40 : decode cX3_isReduced 40 = .ok (.lconst 0, 1) := by decide +kernel
theorem dX3_isReduced_41 : decode cX3_isReduced 41 = .ok (.lcmp, 1) := by decide +kernel
theorem dX3_isReduced_42 : decode cX3_isReduced 42 = .ok (.ifCond .ge 28, 3) := by decide +kernel
theorem dX3_isReduced_45 : decode cX3_isReduced 45 = .ok (.aload_n 0, 1) := by decide +kernel
theorem dX3_isReduced_46 : decode cX3_isReduced 46 = .ok (.getfield 58, 3) := by decide +kernel
theorem dX3_isReduced_49 : decode cX3_isReduced 49 = .ok (.lneg, 1) := by decide +kernel
theorem dX3_isReduced_50 : decode cX3_isReduced 50 = .ok (.aload_n 0, 1) := by decide +kernel
theorem dX3_isReduced_51 : decode cX3_isReduced 51 = .ok (.getfield 54, 3) := by decide +kernel
theorem dX3_isReduced_54 : decode cX3_isReduced 54 = .ok (.lcmp, 1) := by decide +kernel
theorem dX3_isReduced_55 : decode cX3_isReduced 55 = .ok (.ifCond .ge 19, 3) := by decide +kernel
theorem dX3_isReduced_58 : decode cX3_isReduced 58 = .ok (.aload_n 0, 1) := by decide +kernel
theorem dX3_isReduced_59 : decode cX3_isReduced 59 = .ok (.getfield 54, 3) := by decide +kernel
theorem dX3_isReduced_62 : decode cX3_isReduced 62 = .ok (.aload_n 0, 1) := by decide +kernel
theorem dX3_isReduced_63 : decode cX3_isReduced 63 = .ok (.getfield 66, 3) := by decide +kernel
theorem dX3_isReduced_66 : decode cX3_isReduced 66 = .ok (.lcmp, 1) := by decide +kernel
theorem dX3_isReduced_67 : decode cX3_isReduced 67 = .ok (.ifCond .ge 7, 3) := by decide +kernel
theorem dX3_isReduced_70 : decode cX3_isReduced 70 = .ok (.iconst 1, 1) := by decide +kernel
theorem dX3_isReduced_71 : decode cX3_isReduced 71 = .ok (.goto 4, 3) := by decide +kernel
theorem dX3_isReduced_74 : decode cX3_isReduced 74 = .ok (.iconst 0, 1) := by decide +kernel
theorem dX3_isReduced_75 : decode cX3_isReduced 75 = .ok (.ireturn, 1) := by decide +kernel
theorem dX3_isReduced_76 : decode cX3_isReduced 76 = .ok (.aload_n 0, 1) := by decide +kernel
theorem dX3_isReduced_77 : decode cX3_isReduced 77 = .ok (.getfield 58, 3) := by decide +kernel
theorem dX3_isReduced_80 : decode cX3_isReduced 80 = .ok (.lconst 1, 1) := by decide +kernel
theorem dX3_isReduced_81 : decode cX3_isReduced 81 = .ok (.lcmp, 1) := by decide +kernel
theorem dX3_isReduced_82 : decode cX3_isReduced 82 = .ok (.ifCond .lt 67, 3) := by decide +kernel
theorem dX3_isReduced_85 : decode cX3_isReduced 85 = .ok (.aload_n 0, 1) := by decide +kernel
theorem dX3_isReduced_86 : decode cX3_isReduced 86 = .ok (.getfield 58, 3) := by decide +kernel
theorem dX3_isReduced_89 : decode cX3_isReduced 89 = .ok (.aload_n 0, 1) := by decide +kernel
theorem dX3_isReduced_90 : decode cX3_isReduced 90 = .ok (.getfield 69, 3) := by decide +kernel
theorem dX3_isReduced_93 : decode cX3_isReduced 93 = .ok (.lcmp, 1) := by decide +kernel
theorem dX3_isReduced_94 : decode cX3_isReduced 94 = .ok (.ifCond .gt 55, 3) := by decide +kernel
theorem dX3_isReduced_97 : decode cX3_isReduced 97 = .ok (.ldc2_w 72, 3) := by decide +kernel
theorem dX3_isReduced_100 : decode cX3_isReduced 100 = .ok (.aload_n 0, 1) := by decide +kernel
theorem dX3_isReduced_101 : decode cX3_isReduced 101 = .ok (.getfield 54, 3) := by decide +kernel
theorem dX3_isReduced_104 : decode cX3_isReduced 104 = .ok (.invokestatic 50, 3) := by decide +kernel
theorem dX3_isReduced_107 : decode cX3_isReduced 107 = .ok (.lmul, 1) := by decide +kernel
theorem dX3_isReduced_108 : decode cX3_isReduced 108 = .ok (.aload_n 0, 1) := by decide +kernel
theorem dX3_isReduced_109 : decode cX3_isReduced 109 = .ok (.getfield 58, 3) := by decide +kernel
theorem dX3_isReduced_112 : decode cX3_isReduced 112 = .ok (.ladd, 1) := by decide +kernel
theorem dX3_isReduced_113 : decode cX3_isReduced 113 = .ok (.aload_n 0, 1) := by decide +kernel
theorem dX3_isReduced_114 : decode cX3_isReduced 114 = .ok (.getfield 69, 3) := by decide +kernel
theorem dX3_isReduced_117 : decode cX3_isReduced 117 = .ok (.lcmp, 1) := by decide +kernel
theorem dX3_isReduced_118 : decode cX3_isReduced 118 = .ok (.ifCond .le 31, 3) := by decide +kernel
theorem dX3_isReduced_121 : decode cX3_isReduced 121 = .ok (.ldc2_w 72, 3) := by decide +kernel
theorem dX3_isReduced_124 : decode cX3_isReduced 124 = .ok (.aload_n 0, 1) := by decide +kernel
theorem dX3_isReduced_125 : decode cX3_isReduced 125 = .ok (.getfield 54, 3) := by decide +kernel
theorem dX3_isReduced_128 : decode cX3_isReduced 128 = .ok (.invokestatic 50, 3) := by decide +kernel
theorem dX3_isReduced_131 : decode cX3_isReduced 131 = .ok (.lmul, 1) := by decide +kernel
theorem dX3_isReduced_132 : decode cX3_isReduced 132 = .ok (.aload_n 0, 1) := by decide +kernel
theorem dX3_isReduced_133 : decode cX3_isReduced 133 = .ok (.getfield 58, 3) := by decide +kernel
theorem dX3_isReduced_136 : decode cX3_isReduced 136 = .ok (.lsub, 1) := by decide +kernel
theorem dX3_isReduced_137 : decode cX3_isReduced 137 = .ok (.aload_n 0, 1) := by decide +kernel
theorem dX3_isReduced_138 : decode cX3_isReduced 138 = .ok (.getfield 69, 3) := by decide +kernel
theorem dX3_isReduced_141 : decode cX3_isReduced 141 = .ok (.lcmp, 1) := by decide +kernel
theorem dX3_isReduced_142 : decode cX3_isReduced 142 = .ok (.ifCond .gt 7, 3) := by decide +kernel
theorem dX3_isReduced_145 : decode cX3_isReduced 145 = .ok (.iconst 1, 1) := by decide +kernel
theorem dX3_isReduced_146 : decode cX3_isReduced 146 = .ok (.goto 4, 3) := by decide +kernel
theorem dX3_isReduced_149 : decode cX3_isReduced 149 = .ok (.iconst 0, 1) := by decide +kernel
theorem dX3_isReduced_150 : decode cX3_isReduced 150 = .ok (.ireturn, 1) := by decide +kernel
abbrev cX3_step : ByteArray := prog_5_method_9_code
abbrev yX3_step : MethodName := ⟨"ClassGroupModel", "step", "()V"⟩
abbrev wsX3_step : List Cond := .code ⟨"ClassGroupModel", "step", "()V"⟩ prog_5_method_9_code 7 none :: wT
theorem dX3_step_0 : decode cX3_step 0 = .ok (.ldc2_w 72, 3) := by decide +kernel
theorem dX3_step_3 : decode cX3_step 3 = .ok (.aload_n 0, 1) := by decide +kernel
theorem dX3_step_4 : decode cX3_step 4 = .ok (.getfield 66, 3) := by decide +kernel
theorem dX3_step_7 : decode cX3_step 7 = .ok (.invokestatic 50, 3) := by decide +kernel
theorem dX3_step_10 : decode cX3_step 10 = .ok (.lmul, 1) := by decide +kernel
theorem dX3_step_11 : decode cX3_step 11 = .ok (.lstore_n 1, 1) := by decide +kernel
theorem dX3_step_12 : decode cX3_step 12 = .ok (.aload_n 0, 1) := by decide +kernel
theorem dX3_step_13 : decode cX3_step 13 = .ok (.getfield 61, 3) := by decide +kernel
theorem dX3_step_16 : decode cX3_step 16 = .ok (.lconst 0, 1) := by decide +kernel
theorem dX3_step_17 : decode cX3_step 17 = .ok (.lcmp, 1) := by decide +kernel
theorem dX3_step_18 : decode cX3_step 18 = .ok (.ifCond .lt 18, 3) := by decide +kernel
theorem dX3_step_21 : decode cX3_step 21 = .ok (.aload_n 0, 1) := by decide +kernel
theorem dX3_step_22 : decode cX3_step 22 = .ok (.getfield 66, 3) := by decide +kernel
theorem dX3_step_25 : decode cX3_step 25 = .ok (.invokestatic 50, 3) := by decide +kernel
theorem dX3_step_28 : decode cX3_step 28 = .ok (.aload_n 0, 1) := by decide +kernel
theorem dX3_step_29 : decode cX3_step 29 = .ok (.getfield 69, 3) := by decide +kernel
theorem dX3_step_32 : decode cX3_step 32 = .ok (.lcmp, 1) := by decide +kernel
theorem dX3_step_33 : decode cX3_step 33 = .ok (.ifCond .le 13, 3) := by decide +kernel
theorem dX3_step_36 : decode cX3_step 36 = .ok (.aload_n 0, 1) := by decide +kernel
theorem dX3_step_37 : decode cX3_step 37 = .ok (.getfield 66, 3) := by decide +kernel
theorem dX3_step_40 : decode cX3_step 40 = .ok (.invokestatic 50, 3) := by decide +kernel
theorem dX3_step_43 : decode cX3_step 43 = .ok (.goto 7, 3) := by decide +kernel
theorem dX3_step_46 : decode cX3_step 46 = .ok (.aload_n 0, 1) := by decide +kernel
theorem dX3_step_47 : decode cX3_step 47 = .ok (.getfield 69, 3) := by decide +kernel
theorem dX3_step_50 : decode cX3_step 50 = .ok (.lstore_n 3, 1) := by decide +kernel
theorem dX3_step_51 : decode cX3_step 51 = .ok (.lload_n 3, 1) := by decide +kernel
theorem dX3_step_52 : decode cX3_step 52 = .ok (.aload_n 0, 1) := by decide +kernel
theorem dX3_step_53 : decode cX3_step 53 = .ok (.getfield 58, 3) := by decide +kernel
theorem dX3_step_56 : decode cX3_step 56 = .ok (.ladd, 1) := by decide +kernel
theorem dX3_step_57 : decode cX3_step 57 = .ok (.lload_n 1, 1) := by decide +kernel
theorem dX3_step_58 : decode cX3_step 58 = .ok (.lrem, 1) := by decide +kernel
theorem dX3_step_59 : decode cX3_step 59 = .ok (.lstore 5, 2) := by decide +kernel
theorem dX3_step_61 : decode cX3_step 61 = .ok (.lload 5, 2) := by decide +kernel
theorem dX3_step_63 : decode cX3_step 63 = .ok (.lconst 0, 1) := by decide +kernel
theorem dX3_step_64 : decode cX3_step 64 = .ok (.lcmp, 1) := by decide +kernel
theorem dX3_step_65 : decode cX3_step 65 = .ok (.ifCond .ge 9, 3) := by decide +kernel
theorem dX3_step_68 : decode cX3_step 68 = .ok (.lload 5, 2) := by decide +kernel
theorem dX3_step_70 : decode cX3_step 70 = .ok (.lload_n 1, 1) := by decide +kernel
theorem dX3_step_71 : decode cX3_step 71 = .ok (.ladd, 1) := by decide +kernel
theorem dX3_step_72 : decode cX3_step 72 = .ok (.lstore 5, 2) := by decide +kernel
theorem dX3_step_74 : decode cX3_step 74 = .ok (.aload_n 0, 1) := by decide +kernel
theorem dX3_step_75 : decode cX3_step 75 = .ok (.aload_n 0, 1) := by decide +kernel
theorem dX3_step_76 : decode cX3_step 76 = .ok (.getfield 66, 3) := by decide +kernel
theorem dX3_step_79 : decode cX3_step 79 = .ok (.lload_n 3, 1) := by decide +kernel
theorem dX3_step_80 : decode cX3_step 80 = .ok (.lload 5, 2) := by decide +kernel
theorem dX3_step_82 : decode cX3_step 82 = .ok (.lsub, 1) := by decide +kernel
theorem dX3_step_83 : decode cX3_step 83 = .ok (.invokevirtual 74, 3) := by decide +kernel
theorem dX3_step_86 : decode cX3_step 86 = .ok (.return_, 1) := by decide +kernel
abbrev cX3_list : ByteArray := prog_5_method_10_code
abbrev yX3_list : MethodName := ⟨"ClassGroupModel", "list", "()V"⟩
abbrev wsX3_list : List Cond := .code ⟨"ClassGroupModel", "list", "()V"⟩ prog_5_method_10_code 7 none :: wT
theorem dX3_list_0 : decode cX3_list 0 = .ok (.aload_n 0, 1) := by decide +kernel
theorem dX3_list_1 : decode cX3_list 1 = .ok (.iconst 0, 1) := by decide +kernel
theorem dX3_list_2 : decode cX3_list 2 = .ok (.putfield 78, 3) := by decide +kernel
theorem dX3_list_5 : decode cX3_list 5 = .ok (.aload_n 0, 1) := by decide +kernel
theorem dX3_list_6 : decode cX3_list 6 = .ok (.getfield 61, 3) := by decide +kernel
theorem dX3_list_9 : decode cX3_list 9 = .ok (.lconst 0, 1) := by decide +kernel
theorem dX3_list_10 : decode cX3_list 10 = .ok (.lcmp, 1) := by decide +kernel
theorem dX3_list_11 : decode cX3_list 11 = .ok (.ifCond .ge 18, 3) := by decide +kernel
theorem dX3_list_14 : decode cX3_list 14 = .ok (.aload_n 0, 1) := by decide +kernel
theorem dX3_list_15 : decode cX3_list 15 = .ok (.getfield 61, 3) := by decide +kernel
theorem dX3_list_18 : decode cX3_list 18 = .ok (.lneg, 1) := by decide +kernel
theorem dX3_list_19 : decode cX3_list 19 = .ok (.ldc2_w 81, 3) := by decide +kernel
theorem dX3_list_22 : decode cX3_list 22 = .ok (.ldiv, 1) := by decide +kernel
theorem dX3_list_23 : decode cX3_list 23 = .ok (.invokestatic 83, 3) := by decide +kernel
theorem dX3_list_26 : decode cX3_list 26 = .ok (.goto 7, 3) := by decide +kernel
theorem dX3_list_29 : decode cX3_list 29 = .ok (.aload_n 0, 1) := by decide +kernel
theorem dX3_list_30 : decode cX3_list 30 = .ok (.getfield 69, 3) := by decide +kernel
theorem dX3_list_33 : decode cX3_list 33 = .ok (.lstore_n 1, 1) := by decide +kernel
theorem dX3_list_34 : decode cX3_list 34 = .ok (.aload_n 0, 1) := by decide +kernel
theorem dX3_list_35 : decode cX3_list 35 = .ok (.getfield 61, 3) := by decide +kernel
theorem dX3_list_38 : decode cX3_list 38 = .ok (.lconst 0, 1) := by decide +kernel
theorem dX3_list_39 : decode cX3_list 39 = .ok (.lcmp, 1) := by decide +kernel
theorem dX3_list_40 : decode cX3_list 40 = .ok (.ifCond .ge 7, 3) := by decide +kernel
theorem dX3_list_43 : decode cX3_list 43 = .ok (.lconst 1, 1) := by decide +kernel
theorem dX3_list_44 : decode cX3_list 44 = .ok (.goto 5, 3) := by decide +kernel
theorem dX3_list_47 : decode cX3_list 47 = .ok (.lload_n 1, 1) := by decide +kernel
theorem dX3_list_48 : decode cX3_list 48 = .ok (.lneg, 1) := by decide +kernel
theorem dX3_list_49 : decode cX3_list 49 = .ok (.lstore_n 3, 1) := by decide +kernel
theorem dX3_list_50 : decode cX3_list 50 = .ok (.lload_n 3, 1) := by decide +kernel
theorem dX3_list_51 : decode cX3_list 51 = .ok (.lload_n 1, 1) := by decide +kernel
theorem dX3_list_52 : decode cX3_list 52 = .ok (.lcmp, 1) := by decide +kernel
theorem dX3_list_53 : decode cX3_list 53 = .ok (.ifCond .gt 175, 3) := by decide +kernel
theorem dX3_list_56 : decode cX3_list 56 = .ok (.lload_n 3, 1) := by decide +kernel
theorem dX3_list_57 : decode cX3_list 57 = .ok (.lconst 0, 1) := by decide +kernel
theorem dX3_list_58 : decode cX3_list 58 = .ok (.lcmp, 1) := by decide +kernel
theorem dX3_list_59 : decode cX3_list 59 = .ok (.ifCond .ne 6, 3) := by decide +kernel
theorem dX3_list_62 : decode cX3_list 62 = .ok (.goto 159, 3) := by decide +kernel
theorem dX3_list_65 : decode cX3_list 65 = .ok (.aload_n 0, 1) := by decide +kernel
theorem dX3_list_66 : decode cX3_list 66 = .ok (.getfield 61, 3) := by decide +kernel
theorem dX3_list_69 : decode cX3_list 69 = .ok (.lconst 0, 1) := by decide +kernel
theorem dX3_list_70 : decode cX3_list 70 = .ok (.lcmp, 1) := by decide +kernel
theorem dX3_list_71 : decode cX3_list 71 = .ok (.ifCond .ge 8, 3) := by decide +kernel
theorem dX3_list_74 : decode cX3_list 74 = .ok (.lload_n 3, 1) := by decide +kernel
theorem dX3_list_75 : decode cX3_list 75 = .ok (.lneg, 1) := by decide +kernel
theorem dX3_list_76 : decode cX3_list 76 = .ok (.goto 4, 3) := by decide +kernel
theorem dX3_list_79 : decode cX3_list 79 = .ok (.lconst 1, 1) := by decide +kernel
theorem dX3_list_80 : decode cX3_list 80 = .ok (.lstore 5, 2) := by decide +kernel
theorem dX3_list_82 : decode cX3_list 82 = .ok (.lload 5, 2) := by decide +kernel
theorem dX3_list_84 : decode cX3_list 84 = .ok (.aload_n 0, 1) := by decide +kernel
theorem dX3_list_85 : decode cX3_list 85 = .ok (.getfield 61, 3) := by decide +kernel
theorem dX3_list_88 : decode cX3_list 88 = .ok (.lconst 0, 1) := by decide +kernel
theorem dX3_list_89 : decode cX3_list 89 = .ok (.lcmp, 1) := by decide +kernel
theorem dX3_list_90 : decode cX3_list 90 = .ok (.ifCond .ge 7, 3) := by decide +kernel
theorem dX3_list_93 : decode cX3_list 93 = .ok (.lload_n 3, 1) := by decide +kernel
theorem dX3_list_94 : decode cX3_list 94 = .ok (.goto 7, 3) := by decide +kernel
theorem dX3_list_97 : decode cX3_list 97 = .ok (.aload_n 0, 1) := by decide +kernel
theorem dX3_list_98 : decode cX3_list 98 = .ok (.getfield 69, 3) := by decide +kernel
theorem dX3_list_101 : decode cX3_list 101 = .ok (.lcmp, 1) := by decide +kernel
theorem dX3_list_102 : decode cX3_list 102 = .ok (.ifCond .gt 119, 3) := by decide +kernel
theorem dX3_list_105 : decode cX3_list 105 = .ok (.lload 5, 2) := by decide +kernel
theorem dX3_list_107 : decode cX3_list 107 = .ok (.lload 5, 2) := by decide +kernel
theorem dX3_list_109 : decode cX3_list 109 = .ok (.lmul, 1) := by decide +kernel
theorem dX3_list_110 : decode cX3_list 110 = .ok (.aload_n 0, 1) := by decide +kernel
theorem dX3_list_111 : decode cX3_list 111 = .ok (.getfield 61, 3) := by decide +kernel
theorem dX3_list_114 : decode cX3_list 114 = .ok (.lsub, 1) := by decide +kernel
theorem dX3_list_115 : decode cX3_list 115 = .ok (.ldc2_w 64, 3) := by decide +kernel
theorem dX3_list_118 : decode cX3_list 118 = .ok (.lload_n 3, 1) := by decide +kernel
theorem dX3_list_119 : decode cX3_list 119 = .ok (.lmul, 1) := by decide +kernel
theorem dX3_list_120 : decode cX3_list 120 = .ok (.lrem, 1) := by decide +kernel
theorem dX3_list_121 : decode cX3_list 121 = .ok (.lconst 0, 1) := by decide +kernel
theorem dX3_list_122 : decode cX3_list 122 = .ok (.lcmp, 1) := by decide +kernel
theorem dX3_list_123 : decode cX3_list 123 = .ok (.ifCond .eq 6, 3) := by decide +kernel
theorem dX3_list_126 : decode cX3_list 126 = .ok (.goto 86, 3) := by decide +kernel
theorem dX3_list_129 : decode cX3_list 129 = .ok (.aload_n 0, 1) := by decide +kernel
theorem dX3_list_130 : decode cX3_list 130 = .ok (.lload_n 3, 1) := by decide +kernel
theorem dX3_list_131 : decode cX3_list 131 = .ok (.lload 5, 2) := by decide +kernel
theorem dX3_list_133 : decode cX3_list 133 = .ok (.invokevirtual 74, 3) := by decide +kernel
theorem dX3_list_136 : decode cX3_list 136 = .ok (.aload_n 0, 1) := by decide +kernel
theorem dX3_list_137 : decode cX3_list 137 = .ok (.invokevirtual 86, 3) := by decide +kernel
theorem dX3_list_140 : decode cX3_list 140 = .ok (.ifCond .eq 72, 3) := by decide +kernel
theorem dX3_list_143 : decode cX3_list 143 = .ok (.aload_n 0, 1) := by decide +kernel
theorem dX3_list_144 : decode cX3_list 144 = .ok (.getfield 54, 3) := by decide +kernel
theorem dX3_list_147 : decode cX3_list 147 = .ok (.aload_n 0, 1) := by decide +kernel
theorem dX3_list_148 : decode cX3_list 148 = .ok (.getfield 58, 3) := by decide +kernel
theorem dX3_list_151 : decode cX3_list 151 = .ok (.invokestatic 90, 3) := by decide +kernel
theorem dX3_list_154 : decode cX3_list 154 = .ok (.aload_n 0, 1) := by decide +kernel
theorem dX3_list_155 : decode cX3_list 155 = .ok (.getfield 66, 3) := by decide +kernel
theorem dX3_list_158 : decode cX3_list 158 = .ok (.invokestatic 90, 3) := by decide +kernel
theorem dX3_list_161 : decode cX3_list 161 = .ok (.lconst 1, 1) := by decide +kernel
theorem dX3_list_162 : decode cX3_list 162 = .ok (.lcmp, 1) := by decide +kernel
theorem dX3_list_163 : decode cX3_list 163 = .ok (.ifCond .eq 6, 3) := by decide +kernel
theorem dX3_list_166 : decode cX3_list 166 = .ok (.goto 46, 3) := by decide +kernel
theorem dX3_list_169 : decode cX3_list 169 = .ok (.aload_n 0, 1) := by decide +kernel
theorem dX3_list_170 : decode cX3_list 170 = .ok (.getfield 8, 3) := by decide +kernel
theorem dX3_list_173 : decode cX3_list 173 = .ok (.aload_n 0, 1) := by decide +kernel
theorem dX3_list_174 : decode cX3_list 174 = .ok (.getfield 78, 3) := by decide +kernel
theorem dX3_list_177 : decode cX3_list 177 = .ok (.lload_n 3, 1) := by decide +kernel
theorem dX3_list_178 : decode cX3_list 178 = .ok (.l2i, 1) := by decide +kernel
theorem dX3_list_179 : decode cX3_list 179 = .ok (.iastore, 1) := by decide +kernel
theorem dX3_list_180 : decode cX3_list 180 = .ok (.aload_n 0, 1) := by decide +kernel
theorem dX3_list_181 : decode cX3_list 181 = .ok (.getfield 14, 3) := by decide +kernel
theorem dX3_list_184 : decode cX3_list 184 = .ok (.aload_n 0, 1) := by decide +kernel
theorem dX3_list_185 : decode cX3_list 185 = .ok (.getfield 78, 3) := by decide +kernel
theorem dX3_list_188 : decode cX3_list 188 = .ok (.lload 5, 2) := by decide +kernel
theorem dX3_list_190 : decode cX3_list 190 = .ok (.l2i, 1) := by decide +kernel
theorem dX3_list_191 : decode cX3_list 191 = .ok (.iastore, 1) := by decide +kernel
theorem dX3_list_192 : decode cX3_list 192 = .ok (.aload_n 0, 1) := by decide +kernel
theorem dX3_list_193 : decode cX3_list 193 = .ok (.getfield 17, 3) := by decide +kernel
theorem dX3_list_196 : decode cX3_list 196 = .ok (.aload_n 0, 1) := by decide +kernel
theorem dX3_list_197 : decode cX3_list 197 = .ok (.getfield 78, 3) := by decide +kernel
theorem dX3_list_200 : decode cX3_list 200 = .ok (.iconst (-1), 1) := by decide +kernel
theorem dX3_list_201 : decode cX3_list 201 = .ok (.iastore, 1) := by decide +kernel
theorem dX3_list_202 : decode cX3_list 202 = .ok (.aload_n 0, 1) := by decide +kernel
theorem dX3_list_203 : decode cX3_list 203 = .ok (.dup, 1) := by decide +kernel
theorem dX3_list_204 : decode cX3_list 204 = .ok (.getfield 78, 3) := by decide +kernel
theorem dX3_list_207 : decode cX3_list 207 = .ok (.iconst 1, 1) := by decide +kernel
theorem dX3_list_208 : decode cX3_list 208 = .ok (.iadd, 1) := by decide +kernel
theorem dX3_list_209 : decode cX3_list 209 = .ok (.putfield 78, 3) := by decide +kernel
theorem dX3_list_212 : decode cX3_list 212 = .ok (.lload 5, 2) := by decide +kernel
theorem dX3_list_214 : decode cX3_list 214 = .ok (.lconst 1, 1) := by decide +kernel
theorem dX3_list_215 : decode cX3_list 215 = .ok (.ladd, 1) := by decide +kernel
theorem dX3_list_216 : decode cX3_list 216 = .ok (.lstore 5, 2) := by decide +kernel
theorem dX3_list_218 : decode cX3_list 218 = .ok (.goto (-136), 3) := by decide +kernel
theorem dX3_list_221 : decode cX3_list 221 = .ok (.lload_n 3, 1) := by decide +kernel
theorem dX3_list_222 : decode cX3_list 222 = .ok (.lconst 1, 1) := by decide +kernel
theorem dX3_list_223 : decode cX3_list 223 = .ok (.ladd, 1) := by decide +kernel
theorem dX3_list_224 : decode cX3_list 224 = .ok (.lstore_n 3, 1) := by decide +kernel
theorem dX3_list_225 : decode cX3_list 225 = .ok (.goto (-175), 3) := by decide +kernel
theorem dX3_list_228 : decode cX3_list 228 = .ok (.return_, 1) := by decide +kernel
abbrev cX3_place : ByteArray := prog_5_method_11_code
abbrev yX3_place : MethodName := ⟨"ClassGroupModel", "place", "()I"⟩
abbrev wsX3_place : List Cond := .code ⟨"ClassGroupModel", "place", "()I"⟩ prog_5_method_11_code 5 (some .int) :: wT
theorem dX3_place_0 : decode cX3_place 0 = .ok (.iconst 0, 1) := by decide +kernel
theorem dX3_place_1 : decode cX3_place 1 = .ok (.istore_n 1, 1) := by decide +kernel
theorem dX3_place_2 : decode cX3_place 2 = .ok (.aload_n 0, 1) := by decide +kernel
theorem dX3_place_3 : decode cX3_place 3 = .ok (.getfield 78, 3) := by decide +kernel
theorem dX3_place_6 : decode cX3_place 6 = .ok (.istore_n 2, 1) := by decide +kernel
theorem dX3_place_7 : decode cX3_place 7 = .ok (.iload_n 2, 1) := by decide +kernel
theorem dX3_place_8 : decode cX3_place 8 = .ok (.iload_n 1, 1) := by decide +kernel
theorem dX3_place_9 : decode cX3_place 9 = .ok (.isub, 1) := by decide +kernel
theorem dX3_place_10 : decode cX3_place 10 = .ok (.iconst 1, 1) := by decide +kernel
theorem dX3_place_11 : decode cX3_place 11 = .ok (.if_icmp .le 76, 3) := by decide +kernel
theorem dX3_place_14 : decode cX3_place 14 = .ok (.iload_n 1, 1) := by decide +kernel
theorem dX3_place_15 : decode cX3_place 15 = .ok (.iload_n 2, 1) := by decide +kernel
theorem dX3_place_16 : decode cX3_place 16 = .ok (.iadd, 1) := by decide +kernel
theorem dX3_place_17 : decode cX3_place 17 = .ok (.iconst 2, 1) := by decide +kernel
theorem dX3_place_18 : decode cX3_place 18 = .ok (.idiv, 1) := by decide +kernel
theorem dX3_place_19 : decode cX3_place 19 = .ok (.istore_n 3, 1) := by decide +kernel
theorem dX3_place_20 : decode cX3_place 20 = .ok (.aload_n 0, 1) := by decide +kernel
theorem dX3_place_21 : decode cX3_place 21 = .ok (.getfield 8, 3) := by decide +kernel
theorem dX3_place_24 : decode cX3_place 24 = .ok (.iload_n 3, 1) := by decide +kernel
theorem dX3_place_25 : decode cX3_place 25 = .ok (.iaload, 1) := by decide +kernel
theorem dX3_place_26 : decode cX3_place 26 = .ok (.i2l, 1) := by decide +kernel
theorem dX3_place_27 : decode cX3_place 27 = .ok (.aload_n 0, 1) := by decide +kernel
theorem dX3_place_28 : decode cX3_place 28 = .ok (.getfield 54, 3) := by decide +kernel
theorem dX3_place_31 : decode cX3_place 31 = .ok (.lcmp, 1) := by decide +kernel
theorem dX3_place_32 : decode cX3_place 32 = .ok (.ifCond .gt 33, 3) := by decide +kernel
theorem dX3_place_35 : decode cX3_place 35 = .ok (.aload_n 0, 1) := by decide +kernel
theorem dX3_place_36 : decode cX3_place 36 = .ok (.getfield 8, 3) := by decide +kernel
theorem dX3_place_39 : decode cX3_place 39 = .ok (.iload_n 3, 1) := by decide +kernel
theorem dX3_place_40 : decode cX3_place 40 = .ok (.iaload, 1) := by decide +kernel
theorem dX3_place_41 : decode cX3_place 41 = .ok (.i2l, 1) := by decide +kernel
theorem dX3_place_42 : decode cX3_place 42 = .ok (.aload_n 0, 1) := by decide +kernel
theorem dX3_place_43 : decode cX3_place 43 = .ok (.getfield 54, 3) := by decide +kernel
theorem dX3_place_46 : decode cX3_place 46 = .ok (.lcmp, 1) := by decide +kernel
theorem dX3_place_47 : decode cX3_place 47 = .ok (.ifCond .ne 22, 3) := by decide +kernel
theorem dX3_place_50 : decode cX3_place 50 = .ok (.aload_n 0, 1) := by decide +kernel
theorem dX3_place_51 : decode cX3_place 51 = .ok (.getfield 14, 3) := by decide +kernel
theorem dX3_place_54 : decode cX3_place 54 = .ok (.iload_n 3, 1) := by decide +kernel
theorem dX3_place_55 : decode cX3_place 55 = .ok (.iaload, 1) := by decide +kernel
theorem dX3_place_56 : decode cX3_place 56 = .ok (.i2l, 1) := by decide +kernel
theorem dX3_place_57 : decode cX3_place 57 = .ok (.aload_n 0, 1) := by decide +kernel
theorem dX3_place_58 : decode cX3_place 58 = .ok (.getfield 58, 3) := by decide +kernel
theorem dX3_place_61 : decode cX3_place 61 = .ok (.lcmp, 1) := by decide +kernel
theorem dX3_place_62 : decode cX3_place 62 = .ok (.ifCond .le 7, 3) := by decide +kernel
theorem dX3_place_65 : decode cX3_place 65 = .ok (.iconst 1, 1) := by decide +kernel
theorem dX3_place_66 : decode cX3_place 66 = .ok (.goto 4, 3) := by decide +kernel
theorem dX3_place_69 : decode cX3_place 69 = .ok (.iconst 0, 1) := by decide +kernel
theorem dX3_place_70 : decode cX3_place 70 = .ok (.istore 4, 2) := by decide +kernel
theorem dX3_place_72 : decode cX3_place 72 = .ok (.iload 4, 2) := by decide +kernel
theorem dX3_place_74 : decode cX3_place 74 = .ok (.ifCond .eq 8, 3) := by decide +kernel
theorem dX3_place_77 : decode cX3_place 77 = .ok (.iload_n 3, 1) := by decide +kernel
theorem dX3_place_78 : decode cX3_place 78 = .ok (.istore_n 2, 1) := by decide +kernel
theorem dX3_place_79 : decode cX3_place 79 = .ok (.goto 5, 3) := by decide +kernel
theorem dX3_place_82 : decode cX3_place 82 = .ok (.iload_n 3, 1) := by decide +kernel
theorem dX3_place_83 : decode cX3_place 83 = .ok (.istore_n 1, 1) := by decide +kernel
theorem dX3_place_84 : decode cX3_place 84 = .ok (.goto (-77), 3) := by decide +kernel
theorem dX3_place_87 : decode cX3_place 87 = .ok (.iload_n 1, 1) := by decide +kernel
theorem dX3_place_88 : decode cX3_place 88 = .ok (.ireturn, 1) := by decide +kernel
abbrev cX3_gather : ByteArray := prog_5_method_12_code
abbrev yX3_gather : MethodName := ⟨"ClassGroupModel", "gather", "()V"⟩
abbrev wsX3_gather : List Cond := .code ⟨"ClassGroupModel", "gather", "()V"⟩ prog_5_method_12_code 3 none :: wT
theorem dX3_gather_0 : decode cX3_gather 0 = .ok (.aload_n 0, 1) := by decide +kernel
theorem dX3_gather_1 : decode cX3_gather 1 = .ok (.iconst 0, 1) := by decide +kernel
theorem dX3_gather_2 : decode cX3_gather 2 = .ok (.putfield 94, 3) := by decide +kernel
theorem dX3_gather_5 : decode cX3_gather 5 = .ok (.iconst 0, 1) := by decide +kernel
theorem dX3_gather_6 : decode cX3_gather 6 = .ok (.istore_n 1, 1) := by decide +kernel
theorem dX3_gather_7 : decode cX3_gather 7 = .ok (.iload_n 1, 1) := by decide +kernel
theorem dX3_gather_8 : decode cX3_gather 8 = .ok (.aload_n 0, 1) := by decide +kernel
theorem dX3_gather_9 : decode cX3_gather 9 = .ok (.getfield 78, 3) := by decide +kernel
theorem dX3_gather_12 : decode cX3_gather 12 = .ok (.if_icmp .ge 101, 3) := by decide +kernel
theorem dX3_gather_15 : decode cX3_gather 15 = .ok (.aload_n 0, 1) := by decide +kernel
theorem dX3_gather_16 : decode cX3_gather 16 = .ok (.getfield 17, 3) := by decide +kernel
theorem dX3_gather_19 : decode cX3_gather 19 = .ok (.iload_n 1, 1) := by decide +kernel
theorem dX3_gather_20 : decode cX3_gather 20 = .ok (.iaload, 1) := by decide +kernel
theorem dX3_gather_21 : decode cX3_gather 21 = .ok (.ifCond .lt 6, 3) := by decide +kernel
theorem dX3_gather_24 : decode cX3_gather 24 = .ok (.goto 83, 3) := by decide +kernel
theorem dX3_gather_27 : decode cX3_gather 27 = .ok (.aload_n 0, 1) := by decide +kernel
theorem dX3_gather_28 : decode cX3_gather 28 = .ok (.aload_n 0, 1) := by decide +kernel
theorem dX3_gather_29 : decode cX3_gather 29 = .ok (.getfield 8, 3) := by decide +kernel
theorem dX3_gather_32 : decode cX3_gather 32 = .ok (.iload_n 1, 1) := by decide +kernel
theorem dX3_gather_33 : decode cX3_gather 33 = .ok (.iaload, 1) := by decide +kernel
theorem dX3_gather_34 : decode cX3_gather 34 = .ok (.i2l, 1) := by decide +kernel
theorem dX3_gather_35 : decode cX3_gather 35 = .ok (.aload_n 0, 1) := by decide +kernel
theorem dX3_gather_36 : decode cX3_gather 36 = .ok (.getfield 14, 3) := by decide +kernel
theorem dX3_gather_39 : decode cX3_gather 39 = .ok (.iload_n 1, 1) := by decide +kernel
theorem dX3_gather_40 : decode cX3_gather 40 = .ok (.iaload, 1) := by decide +kernel
theorem dX3_gather_41 : decode cX3_gather 41 = .ok (.i2l, 1) := by decide +kernel
theorem dX3_gather_42 : decode cX3_gather 42 = .ok (.invokevirtual 74, 3) := by decide +kernel
theorem dX3_gather_45 : decode cX3_gather 45 = .ok (.aload_n 0, 1) := by decide +kernel
theorem dX3_gather_46 : decode cX3_gather 46 = .ok (.getfield 20, 3) := by decide +kernel
theorem dX3_gather_49 : decode cX3_gather 49 = .ok (.aload_n 0, 1) := by decide +kernel
theorem dX3_gather_50 : decode cX3_gather 50 = .ok (.getfield 94, 3) := by decide +kernel
theorem dX3_gather_53 : decode cX3_gather 53 = .ok (.iload_n 1, 1) := by decide +kernel
theorem dX3_gather_54 : decode cX3_gather 54 = .ok (.iastore, 1) := by decide +kernel
theorem dX3_gather_55 : decode cX3_gather 55 = .ok (.iload_n 1, 1) := by decide +kernel
theorem dX3_gather_56 : decode cX3_gather 56 = .ok (.istore_n 2, 1) := by decide +kernel
theorem dX3_gather_57 : decode cX3_gather 57 = .ok (.aload_n 0, 1) := by decide +kernel
theorem dX3_gather_58 : decode cX3_gather 58 = .ok (.getfield 17, 3) := by decide +kernel
theorem dX3_gather_61 : decode cX3_gather 61 = .ok (.iload_n 2, 1) := by decide +kernel
theorem dX3_gather_62 : decode cX3_gather 62 = .ok (.iaload, 1) := by decide +kernel
theorem dX3_gather_63 : decode cX3_gather 63 = .ok (.ifCond .ge 34, 3) := by decide +kernel
theorem dX3_gather_66 : decode cX3_gather 66 = .ok (.aload_n 0, 1) := by decide +kernel
theorem dX3_gather_67 : decode cX3_gather 67 = .ok (.getfield 17, 3) := by decide +kernel
theorem dX3_gather_70 : decode cX3_gather 70 = .ok (.iload_n 2, 1) := by decide +kernel
theorem dX3_gather_71 : decode cX3_gather 71 = .ok (.aload_n 0, 1) := by decide +kernel
theorem dX3_gather_72 : decode cX3_gather 72 = .ok (.getfield 94, 3) := by decide +kernel
theorem dX3_gather_75 : decode cX3_gather 75 = .ok (.iastore, 1) := by decide +kernel
theorem dX3_gather_76 : decode cX3_gather 76 = .ok (.aload_n 0, 1) := by decide +kernel
theorem dX3_gather_77 : decode cX3_gather 77 = .ok (.getfield 61, 3) := by decide +kernel
theorem dX3_gather_80 : decode cX3_gather 80 = .ok (.lconst 0, 1) := by decide +kernel
theorem dX3_gather_81 : decode cX3_gather 81 = .ok (.lcmp, 1) := by decide +kernel
theorem dX3_gather_82 : decode cX3_gather 82 = .ok (.ifCond .le 7, 3) := by decide +kernel
theorem dX3_gather_85 : decode cX3_gather 85 = .ok (.aload_n 0, 1) := by decide +kernel
theorem dX3_gather_86 : decode cX3_gather 86 = .ok (.invokevirtual 97, 3) := by decide +kernel
theorem dX3_gather_89 : decode cX3_gather 89 = .ok (.aload_n 0, 1) := by decide +kernel
theorem dX3_gather_90 : decode cX3_gather 90 = .ok (.invokevirtual 100, 3) := by decide +kernel
theorem dX3_gather_93 : decode cX3_gather 93 = .ok (.istore_n 2, 1) := by decide +kernel
theorem dX3_gather_94 : decode cX3_gather 94 = .ok (.goto (-37), 3) := by decide +kernel
theorem dX3_gather_97 : decode cX3_gather 97 = .ok (.aload_n 0, 1) := by decide +kernel
theorem dX3_gather_98 : decode cX3_gather 98 = .ok (.dup, 1) := by decide +kernel
theorem dX3_gather_99 : decode cX3_gather 99 = .ok (.getfield 94, 3) := by decide +kernel
theorem dX3_gather_102 : decode cX3_gather 102 = .ok (.iconst 1, 1) := by decide +kernel
theorem dX3_gather_103 : decode cX3_gather 103 = .ok (.iadd, 1) := by decide +kernel
theorem dX3_gather_104 : decode cX3_gather 104 = .ok (.putfield 94, 3) := by decide +kernel
theorem dX3_gather_107 : decode cX3_gather 107 = .ok (.iinc 1 1, 3) := by decide +kernel
theorem dX3_gather_110 : decode cX3_gather 110 = .ok (.goto (-103), 3) := by decide +kernel
theorem dX3_gather_113 : decode cX3_gather 113 = .ok (.return_, 1) := by decide +kernel
abbrev cX3_found : ByteArray := prog_5_method_13_code
abbrev yX3_found : MethodName := ⟨"ClassGroupModel", "found", "()I"⟩
abbrev wsX3_found : List Cond := .code ⟨"ClassGroupModel", "found", "()I"⟩ prog_5_method_13_code 1 (some .int) :: wT
theorem dX3_found_0 : decode cX3_found 0 = .ok (.aload_n 0, 1) := by decide +kernel
theorem dX3_found_1 : decode cX3_found 1 = .ok (.invokevirtual 86, 3) := by decide +kernel
theorem dX3_found_4 : decode cX3_found 4 = .ok (.ifCond .ne 10, 3) := by decide +kernel
theorem dX3_found_7 : decode cX3_found 7 = .ok (.aload_n 0, 1) := by decide +kernel
theorem dX3_found_8 : decode cX3_found 8 = .ok (.invokevirtual 97, 3) := by decide +kernel
theorem dX3_found_11 : decode cX3_found 11 = .ok (.goto (-11), 3) := by decide +kernel
theorem dX3_found_14 : decode cX3_found 14 = .ok (.aload_n 0, 1) := by decide +kernel
theorem dX3_found_15 : decode cX3_found 15 = .ok (.getfield 17, 3) := by decide +kernel
theorem dX3_found_18 : decode cX3_found 18 = .ok (.aload_n 0, 1) := by decide +kernel
theorem dX3_found_19 : decode cX3_found 19 = .ok (.invokevirtual 100, 3) := by decide +kernel
theorem dX3_found_22 : decode cX3_found 22 = .ok (.iaload, 1) := by decide +kernel
theorem dX3_found_23 : decode cX3_found 23 = .ok (.ireturn, 1) := by decide +kernel
abbrev cX3_beName : ByteArray := prog_5_method_14_code
abbrev yX3_beName : MethodName := ⟨"ClassGroupModel", "beName", "(I)V"⟩
abbrev wsX3_beName : List Cond := .code ⟨"ClassGroupModel", "beName", "(I)V"⟩ prog_5_method_14_code 2 none :: wT
theorem dX3_beName_0 : decode cX3_beName 0 = .ok (.aload_n 0, 1) := by decide +kernel
theorem dX3_beName_1 : decode cX3_beName 1 = .ok (.aload_n 0, 1) := by decide +kernel
theorem dX3_beName_2 : decode cX3_beName 2 = .ok (.getfield 8, 3) := by decide +kernel
theorem dX3_beName_5 : decode cX3_beName 5 = .ok (.aload_n 0, 1) := by decide +kernel
theorem dX3_beName_6 : decode cX3_beName 6 = .ok (.getfield 20, 3) := by decide +kernel
theorem dX3_beName_9 : decode cX3_beName 9 = .ok (.iload_n 1, 1) := by decide +kernel
theorem dX3_beName_10 : decode cX3_beName 10 = .ok (.iaload, 1) := by decide +kernel
theorem dX3_beName_11 : decode cX3_beName 11 = .ok (.iaload, 1) := by decide +kernel
theorem dX3_beName_12 : decode cX3_beName 12 = .ok (.i2l, 1) := by decide +kernel
theorem dX3_beName_13 : decode cX3_beName 13 = .ok (.aload_n 0, 1) := by decide +kernel
theorem dX3_beName_14 : decode cX3_beName 14 = .ok (.getfield 14, 3) := by decide +kernel
theorem dX3_beName_17 : decode cX3_beName 17 = .ok (.aload_n 0, 1) := by decide +kernel
theorem dX3_beName_18 : decode cX3_beName 18 = .ok (.getfield 20, 3) := by decide +kernel
theorem dX3_beName_21 : decode cX3_beName 21 = .ok (.iload_n 1, 1) := by decide +kernel
theorem dX3_beName_22 : decode cX3_beName 22 = .ok (.iaload, 1) := by decide +kernel
theorem dX3_beName_23 : decode cX3_beName 23 = .ok (.iaload, 1) := by decide +kernel
theorem dX3_beName_24 : decode cX3_beName 24 = .ok (.i2l, 1) := by decide +kernel
theorem dX3_beName_25 : decode cX3_beName 25 = .ok (.invokevirtual 74, 3) := by decide +kernel
theorem dX3_beName_28 : decode cX3_beName 28 = .ok (.return_, 1) := by decide +kernel
abbrev cX3_times : ByteArray := prog_5_method_15_code
abbrev yX3_times : MethodName := ⟨"ClassGroupModel", "times", "(II)I"⟩
abbrev wsX3_times : List Cond := .code ⟨"ClassGroupModel", "times", "(II)I"⟩ prog_5_method_15_code 21 (some .int) :: wT
theorem dX3_times_0 : decode cX3_times 0 = .ok (.aload_n 0, 1) := by decide +kernel
theorem dX3_times_1 : decode cX3_times 1 = .ok (.iload_n 1, 1) := by decide +kernel
theorem dX3_times_2 : decode cX3_times 2 = .ok (.invokevirtual 104, 3) := by decide +kernel
theorem dX3_times_5 : decode cX3_times 5 = .ok (.aload_n 0, 1) := by decide +kernel
theorem dX3_times_6 : decode cX3_times 6 = .ok (.getfield 54, 3) := by decide +kernel
theorem dX3_times_9 : decode cX3_times 9 = .ok (.lstore_n 3, 1) := by decide +kernel
theorem dX3_times_10 : decode cX3_times 10 = .ok (.aload_n 0, 1) := by decide +kernel
theorem dX3_times_11 : decode cX3_times 11 = .ok (.getfield 58, 3) := by decide +kernel
theorem dX3_times_14 : decode cX3_times 14 = .ok (.lstore 5, 2) := by decide +kernel
theorem dX3_times_16 : decode cX3_times 16 = .ok (.aload_n 0, 1) := by decide +kernel
theorem dX3_times_17 : decode cX3_times 17 = .ok (.iload_n 2, 1) := by decide +kernel
theorem dX3_times_18 : decode cX3_times 18 = .ok (.invokevirtual 104, 3) := by decide +kernel
theorem dX3_times_21 : decode cX3_times 21 = .ok (.lload 5, 2) := by decide +kernel
theorem dX3_times_23 : decode cX3_times 23 = .ok (.aload_n 0, 1) := by decide +kernel
theorem dX3_times_24 : decode cX3_times 24 = .ok (.getfield 58, 3) := by decide +kernel
theorem dX3_times_27 : decode cX3_times 27 = .ok (.ladd, 1) := by decide +kernel
theorem dX3_times_28 : decode cX3_times 28 = .ok (.ldc2_w 72, 3) := by decide +kernel
theorem dX3_times_31 : decode cX3_times 31 = .ok (.ldiv, 1) := by decide +kernel
theorem dX3_times_32 : decode cX3_times 32 = .ok (.lstore 7, 2) := by decide +kernel
theorem dX3_times_34 : decode cX3_times 34 = .ok (.lload_n 3, 1) := by decide +kernel
theorem dX3_times_35 : decode cX3_times 35 = .ok (.aload_n 0, 1) := by decide +kernel
theorem dX3_times_36 : decode cX3_times 36 = .ok (.getfield 54, 3) := by decide +kernel
theorem dX3_times_39 : decode cX3_times 39 = .ok (.invokestatic 90, 3) := by decide +kernel
theorem dX3_times_42 : decode cX3_times 42 = .ok (.lload 7, 2) := by decide +kernel
theorem dX3_times_44 : decode cX3_times 44 = .ok (.invokestatic 90, 3) := by decide +kernel
theorem dX3_times_47 : decode cX3_times 47 = .ok (.lstore 9, 2) := by decide +kernel
theorem dX3_times_49 : decode cX3_times 49 = .ok (.lload_n 3, 1) := by decide +kernel
theorem dX3_times_50 : decode cX3_times 50 = .ok (.lload 9, 2) := by decide +kernel
theorem dX3_times_52 : decode cX3_times 52 = .ok (.ldiv, 1) := by decide +kernel
theorem dX3_times_53 : decode cX3_times 53 = .ok (.aload_n 0, 1) := by decide +kernel
theorem dX3_times_54 : decode cX3_times 54 = .ok (.getfield 54, 3) := by decide +kernel
theorem dX3_times_57 : decode cX3_times 57 = .ok (.lload 9, 2) := by decide +kernel
theorem dX3_times_59 : decode cX3_times 59 = .ok (.ldiv, 1) := by decide +kernel
theorem dX3_times_60 : decode cX3_times 60 = .ok (.lmul, 1) := by decide +kernel
theorem dX3_times_61 : decode cX3_times 61 = .ok (.lstore 11, 2) := by decide +kernel
theorem dX3_times_63 : decode cX3_times 63 = .ok (.lload 5, 2) := by decide +kernel
theorem dX3_times_65 : decode cX3_times 65 = .ok (.aload_n 0, 1) := by decide +kernel
theorem dX3_times_66 : decode cX3_times 66 = .ok (.getfield 58, 3) := by decide +kernel
theorem dX3_times_69 : decode cX3_times 69 = .ok (.lmul, 1) := by decide +kernel
theorem dX3_times_70 : decode cX3_times 70 = .ok (.aload_n 0, 1) := by decide +kernel
theorem dX3_times_71 : decode cX3_times 71 = .ok (.getfield 61, 3) := by decide +kernel
theorem dX3_times_74 : decode cX3_times 74 = .ok (.ladd, 1) := by decide +kernel
theorem dX3_times_75 : decode cX3_times 75 = .ok (.ldc2_w 72, 3) := by decide +kernel
theorem dX3_times_78 : decode cX3_times 78 = .ok (.ldiv, 1) := by decide +kernel
theorem dX3_times_79 : decode cX3_times 79 = .ok (.lload 9, 2) := by decide +kernel
theorem dX3_times_81 : decode cX3_times 81 = .ok (.ldiv, 1) := by decide +kernel
theorem dX3_times_82 : decode cX3_times 82 = .ok (.lstore 13, 2) := by decide +kernel
theorem dX3_times_84 : decode cX3_times 84 = .ok (.ldc2_w 72, 3) := by decide +kernel
theorem dX3_times_87 : decode cX3_times 87 = .ok (.lload_n 3, 1) := by decide +kernel
theorem dX3_times_88 : decode cX3_times 88 = .ok (.lmul, 1) := by decide +kernel
theorem dX3_times_89 : decode cX3_times 89 = .ok (.lload 9, 2) := by decide +kernel
theorem dX3_times_91 : decode cX3_times 91 = .ok (.ldiv, 1) := by decide +kernel
theorem dX3_times_92 : decode cX3_times 92 = .ok (.lstore 15, 2) := by decide +kernel
theorem dX3_times_94 : decode cX3_times 94 = .ok (.ldc2_w 72, 3) := by decide +kernel
theorem dX3_times_97 : decode cX3_times 97 = .ok (.aload_n 0, 1) := by decide +kernel
theorem dX3_times_98 : decode cX3_times 98 = .ok (.getfield 54, 3) := by decide +kernel
theorem dX3_times_101 : decode cX3_times 101 = .ok (.lmul, 1) := by decide +kernel
theorem dX3_times_102 : decode cX3_times 102 = .ok (.lload 9, 2) := by decide +kernel
theorem dX3_times_104 : decode cX3_times 104 = .ok (.ldiv, 1) := by decide +kernel
theorem dX3_times_105 : decode cX3_times 105 = .ok (.lstore 17, 2) := by decide +kernel
theorem dX3_times_107 : decode cX3_times 107 = .ok (.lload 5, 2) := by decide +kernel
theorem dX3_times_109 : decode cX3_times 109 = .ok (.lstore 19, 2) := by decide +kernel
theorem dX3_times_111 : decode cX3_times 111 = .ok (.lload 19, 2) := by decide +kernel
theorem dX3_times_113 : decode cX3_times 113 = .ok (.aload_n 0, 1) := by decide +kernel
theorem dX3_times_114 : decode cX3_times 114 = .ok (.getfield 58, 3) := by decide +kernel
theorem dX3_times_117 : decode cX3_times 117 = .ok (.lsub, 1) := by decide +kernel
theorem dX3_times_118 : decode cX3_times 118 = .ok (.lload 17, 2) := by decide +kernel
theorem dX3_times_120 : decode cX3_times 120 = .ok (.lrem, 1) := by decide +kernel
theorem dX3_times_121 : decode cX3_times 121 = .ok (.lconst 0, 1) := by decide +kernel
theorem dX3_times_122 : decode cX3_times 122 = .ok (.lcmp, 1) := by decide +kernel
theorem dX3_times_123 : decode cX3_times 123 = .ok (.ifCond .ne 26, 3) := by decide +kernel
theorem dX3_times_126 : decode cX3_times 126 = .ok (.lload 7, 2) := by decide +kernel
theorem dX3_times_128 : decode cX3_times 128 = .ok (.lload 9, 2) := by decide +kernel
theorem dX3_times_130 : decode cX3_times 130 = .ok (.ldiv, 1) := by decide +kernel
theorem dX3_times_131 : decode cX3_times 131 = .ok (.lload 19, 2) := by decide +kernel
theorem dX3_times_133 : decode cX3_times 133 = .ok (.lmul, 1) := by decide +kernel
theorem dX3_times_134 : decode cX3_times 134 = .ok (.lload 13, 2) := by decide +kernel
theorem dX3_times_136 : decode cX3_times 136 = .ok (.lsub, 1) := by decide +kernel
theorem dX3_times_137 : decode cX3_times 137 = .ok (.ldc2_w 72, 3) := by decide +kernel
theorem dX3_times_140 : decode cX3_times 140 = .ok (.lload 11, 2) := by decide +kernel
theorem dX3_times_142 : decode cX3_times 142 = .ok (.lmul, 1) := by decide +kernel
theorem dX3_times_143 : decode cX3_times 143 = .ok (.lrem, 1) := by decide +kernel
theorem dX3_times_144 : decode cX3_times 144 = .ok (.lconst 0, 1) := by decide +kernel
theorem dX3_times_145 : decode cX3_times 145 = .ok (.lcmp, 1) := by decide +kernel
theorem dX3_times_146 : decode cX3_times 146 = .ok (.ifCond .eq 16, 3) := by decide +kernel
theorem dX3_times_149 : decode cX3_times 149 = .ok (.lload 19, 2) := by decide +kernel
theorem dX3_times_151 : decode cX3_times 151 = .ok (.lload 15, 2) := by decide +kernel
theorem dX3_times_153 : decode cX3_times 153 = .ok (.invokestatic 50, 3) := by decide +kernel
theorem dX3_times_156 : decode cX3_times 156 = .ok (.ladd, 1) := by decide +kernel
theorem dX3_times_157 : decode cX3_times 157 = .ok (.lstore 19, 2) := by decide +kernel
theorem dX3_times_159 : decode cX3_times 159 = .ok (.goto (-48), 3) := by decide +kernel
theorem dX3_times_162 : decode cX3_times 162 = .ok (.aload_n 0, 1) := by decide +kernel
theorem dX3_times_163 : decode cX3_times 163 = .ok (.lload 11, 2) := by decide +kernel
theorem dX3_times_165 : decode cX3_times 165 = .ok (.lload 19, 2) := by decide +kernel
theorem dX3_times_167 : decode cX3_times 167 = .ok (.invokevirtual 74, 3) := by decide +kernel
theorem dX3_times_170 : decode cX3_times 170 = .ok (.aload_n 0, 1) := by decide +kernel
theorem dX3_times_171 : decode cX3_times 171 = .ok (.invokevirtual 108, 3) := by decide +kernel
theorem dX3_times_174 : decode cX3_times 174 = .ok (.ireturn, 1) := by decide +kernel
abbrev cX3_turned : ByteArray := prog_5_method_16_code
abbrev yX3_turned : MethodName := ⟨"ClassGroupModel", "turned", "(I)I"⟩
abbrev wsX3_turned : List Cond := .code ⟨"ClassGroupModel", "turned", "(I)I"⟩ prog_5_method_16_code 2 (some .int) :: wT
theorem dX3_turned_0 : decode cX3_turned 0 = .ok (.aload_n 0, 1) := by decide +kernel
theorem dX3_turned_1 : decode cX3_turned 1 = .ok (.iload_n 1, 1) := by decide +kernel
theorem dX3_turned_2 : decode cX3_turned 2 = .ok (.invokevirtual 104, 3) := by decide +kernel
theorem dX3_turned_5 : decode cX3_turned 5 = .ok (.aload_n 0, 1) := by decide +kernel
theorem dX3_turned_6 : decode cX3_turned 6 = .ok (.aload_n 0, 1) := by decide +kernel
theorem dX3_turned_7 : decode cX3_turned 7 = .ok (.getfield 54, 3) := by decide +kernel
theorem dX3_turned_10 : decode cX3_turned 10 = .ok (.aload_n 0, 1) := by decide +kernel
theorem dX3_turned_11 : decode cX3_turned 11 = .ok (.getfield 58, 3) := by decide +kernel
theorem dX3_turned_14 : decode cX3_turned 14 = .ok (.lneg, 1) := by decide +kernel
theorem dX3_turned_15 : decode cX3_turned 15 = .ok (.invokevirtual 74, 3) := by decide +kernel
theorem dX3_turned_18 : decode cX3_turned 18 = .ok (.aload_n 0, 1) := by decide +kernel
theorem dX3_turned_19 : decode cX3_turned 19 = .ok (.invokevirtual 108, 3) := by decide +kernel
theorem dX3_turned_22 : decode cX3_turned 22 = .ok (.ireturn, 1) := by decide +kernel
abbrev cX3_raised : ByteArray := prog_5_method_17_code
abbrev yX3_raised : MethodName := ⟨"ClassGroupModel", "raised", "(II)I"⟩
abbrev wsX3_raised : List Cond := .code ⟨"ClassGroupModel", "raised", "(II)I"⟩ prog_5_method_17_code 9 (some .int) :: wT
theorem dX3_raised_0 : decode cX3_raised 0 = .ok (.iload_n 2, 1) := by decide +kernel
theorem dX3_raised_1 : decode cX3_raised 1 = .ok (.ifCond .ge 11, 3) := by decide +kernel
theorem dX3_raised_4 : decode cX3_raised 4 = .ok (.aload_n 0, 1) := by decide +kernel
theorem dX3_raised_5 : decode cX3_raised 5 = .ok (.iload_n 1, 1) := by decide +kernel
theorem dX3_raised_6 : decode cX3_raised 6 = .ok (.invokevirtual 111, 3) := by decide +kernel
theorem dX3_raised_9 : decode cX3_raised 9 = .ok (.goto 4, 3) := by decide +kernel
theorem dX3_raised_12 : decode cX3_raised 12 = .ok (.iload_n 1, 1) := by decide +kernel
theorem dX3_raised_13 : decode cX3_raised 13 = .ok (.istore_n 3, 1) := by decide +kernel
theorem dX3_raised_14 : decode cX3_raised 14 = .ok (.iload_n 2, 1) := by decide +kernel
theorem dX3_raised_15 : decode cX3_raised 15 = .ok (.ifCond .ge 9, 3) := by decide +kernel
theorem dX3_raised_18 : decode cX3_raised 18 = .ok (.iload_n 2, 1) := by decide +kernel
theorem dX3_raised_19 : decode cX3_raised 19 = .ok (.i2l, 1) := by decide +kernel
theorem dX3_raised_20 : decode cX3_raised 20 = .ok (.lneg, 1) := by decide +kernel
theorem dX3_raised_21 : decode cX3_raised 21 = .ok (.goto 5, 3) := by decide +kernel
theorem dX3_raised_24 : decode cX3_raised 24 = .ok (.iload_n 2, 1) := by decide +kernel
theorem dX3_raised_25 : decode cX3_raised 25 = .ok (.i2l, 1) := by decide +kernel
theorem dX3_raised_26 : decode cX3_raised 26 = .ok (.lstore 4, 2) := by decide +kernel
theorem dX3_raised_28 : decode cX3_raised 28 = .ok (.aload_n 0, 1) := by decide +kernel
theorem dX3_raised_29 : decode cX3_raised 29 = .ok (.getfield 115, 3) := by decide +kernel
theorem dX3_raised_32 : decode cX3_raised 32 = .ok (.istore 6, 2) := by decide +kernel
theorem dX3_raised_34 : decode cX3_raised 34 = .ok (.lload 4, 2) := by decide +kernel
theorem dX3_raised_36 : decode cX3_raised 36 = .ok (.aload_n 0, 1) := by decide +kernel
theorem dX3_raised_37 : decode cX3_raised 37 = .ok (.getfield 23, 3) := by decide +kernel
theorem dX3_raised_40 : decode cX3_raised 40 = .ok (.iload_n 1, 1) := by decide +kernel
theorem dX3_raised_41 : decode cX3_raised 41 = .ok (.iaload, 1) := by decide +kernel
theorem dX3_raised_42 : decode cX3_raised 42 = .ok (.i2l, 1) := by decide +kernel
theorem dX3_raised_43 : decode cX3_raised 43 = .ok (.lrem, 1) := by decide +kernel
theorem dX3_raised_44 : decode cX3_raised 44 = .ok (.lstore 7, 2) := by decide +kernel
theorem dX3_raised_46 : decode cX3_raised 46 = .ok (.lload 7, 2) := by decide +kernel
theorem dX3_raised_48 : decode cX3_raised 48 = .ok (.lconst 0, 1) := by decide +kernel
theorem dX3_raised_49 : decode cX3_raised 49 = .ok (.lcmp, 1) := by decide +kernel
theorem dX3_raised_50 : decode cX3_raised 50 = .ok (.ifCond .le 21, 3) := by decide +kernel
theorem dX3_raised_53 : decode cX3_raised 53 = .ok (.aload_n 0, 1) := by decide +kernel
theorem dX3_raised_54 : decode cX3_raised 54 = .ok (.iload 6, 2) := by decide +kernel
theorem dX3_raised_56 : decode cX3_raised 56 = .ok (.iload_n 3, 1) := by decide +kernel
theorem dX3_raised_57 : decode cX3_raised 57 = .ok (.invokevirtual 118, 3) := by decide +kernel
theorem dX3_raised_60 : decode cX3_raised 60 = .ok (.istore 6, 2) := by decide +kernel
theorem dX3_raised_62 : decode cX3_raised 62 = .ok (.lload 7, 2) := by decide +kernel
theorem dX3_raised_64 : decode cX3_raised 64 = .ok (.lconst 1, 1) := by decide +kernel
theorem dX3_raised_65 : decode cX3_raised 65 = .ok (.lsub, 1) := by decide +kernel
theorem dX3_raised_66 : decode cX3_raised 66 = .ok (.lstore 7, 2) := by decide +kernel
theorem dX3_raised_68 : decode cX3_raised 68 = .ok (.goto (-22), 3) := by decide +kernel
theorem dX3_raised_71 : decode cX3_raised 71 = .ok (.iload 6, 2) := by decide +kernel
theorem dX3_raised_73 : decode cX3_raised 73 = .ok (.ireturn, 1) := by decide +kernel
