abbrev cM_absI : ByteArray := prog_9_method_59_code
abbrev yM_absI : MethodName := ⟨"java/lang/Math", "abs", "(I)I"⟩
abbrev wsM_absI : List Cond := .code ⟨"java/lang/Math", "abs", "(I)I"⟩ prog_9_method_59_code 1 (some .int) :: wT
theorem dM_absI_0 : decode cM_absI 0 = .ok (.iload_n 0, 1) := by decide +kernel
theorem dM_absI_1 : decode cM_absI 1 = .ok (.ifCond .ge 8, 3) := by decide +kernel
theorem dM_absI_4 : decode cM_absI 4 = .ok (.iload_n 0, 1) := by decide +kernel
theorem dM_absI_5 : decode cM_absI 5 = .ok (.ineg, 1) := by decide +kernel
theorem dM_absI_6 : decode cM_absI 6 = .ok (.goto 4, 3) := by decide +kernel
theorem dM_absI_9 : decode cM_absI 9 = .ok (.iload_n 0, 1) := by decide +kernel
theorem dM_absI_10 : decode cM_absI 10 = .ok (.ireturn, 1) := by decide +kernel
abbrev cM_absJ : ByteArray := prog_9_method_61_code
abbrev yM_absJ : MethodName := ⟨"java/lang/Math", "abs", "(J)J"⟩
abbrev wsM_absJ : List Cond := .code ⟨"java/lang/Math", "abs", "(J)J"⟩ prog_9_method_61_code 2 (some .long) :: wT
theorem dM_absJ_0 : decode cM_absJ 0 = .ok (.lload_n 0, 1) := by decide +kernel
theorem dM_absJ_1 : decode cM_absJ 1 = .ok (.lconst 0, 1) := by decide +kernel
theorem dM_absJ_2 : decode cM_absJ 2 = .ok (.lcmp, 1) := by decide +kernel
theorem dM_absJ_3 : decode cM_absJ 3 = .ok (.ifCond .ge 8, 3) := by decide +kernel
theorem dM_absJ_6 : decode cM_absJ 6 = .ok (.lload_n 0, 1) := by decide +kernel
theorem dM_absJ_7 : decode cM_absJ 7 = .ok (.lneg, 1) := by decide +kernel
theorem dM_absJ_8 : decode cM_absJ 8 = .ok (.goto 4, 3) := by decide +kernel
theorem dM_absJ_11 : decode cM_absJ 11 = .ok (.lload_n 0, 1) := by decide +kernel
theorem dM_absJ_12 : decode cM_absJ 12 = .ok (.lreturn, 1) := by decide +kernel
abbrev cM_maxII : ByteArray := prog_9_method_65_code
abbrev yM_maxII : MethodName := ⟨"java/lang/Math", "max", "(II)I"⟩
abbrev wsM_maxII : List Cond := .code ⟨"java/lang/Math", "max", "(II)I"⟩ prog_9_method_65_code 2 (some .int) :: wT
theorem dM_maxII_0 : decode cM_maxII 0 = .ok (.iload_n 0, 1) := by decide +kernel
theorem dM_maxII_1 : decode cM_maxII 1 = .ok (.iload_n 1, 1) := by decide +kernel
theorem dM_maxII_2 : decode cM_maxII 2 = .ok (.if_icmp .lt 7, 3) := by decide +kernel
theorem dM_maxII_5 : decode cM_maxII 5 = .ok (.iload_n 0, 1) := by decide +kernel
theorem dM_maxII_6 : decode cM_maxII 6 = .ok (.goto 4, 3) := by decide +kernel
theorem dM_maxII_9 : decode cM_maxII 9 = .ok (.iload_n 1, 1) := by decide +kernel
theorem dM_maxII_10 : decode cM_maxII 10 = .ok (.ireturn, 1) := by decide +kernel
abbrev cM_minII : ByteArray := prog_9_method_69_code
abbrev yM_minII : MethodName := ⟨"java/lang/Math", "min", "(II)I"⟩
abbrev wsM_minII : List Cond := .code ⟨"java/lang/Math", "min", "(II)I"⟩ prog_9_method_69_code 2 (some .int) :: wT
theorem dM_minII_0 : decode cM_minII 0 = .ok (.iload_n 0, 1) := by decide +kernel
theorem dM_minII_1 : decode cM_minII 1 = .ok (.iload_n 1, 1) := by decide +kernel
theorem dM_minII_2 : decode cM_minII 2 = .ok (.if_icmp .gt 7, 3) := by decide +kernel
theorem dM_minII_5 : decode cM_minII 5 = .ok (.iload_n 0, 1) := by decide +kernel
theorem dM_minII_6 : decode cM_minII 6 = .ok (.goto 4, 3) := by decide +kernel
theorem dM_minII_9 : decode cM_minII 9 = .ok (.iload_n 1, 1) := by decide +kernel
theorem dM_minII_10 : decode cM_minII 10 = .ok (.ireturn, 1) := by decide +kernel
abbrev cM_floorModII : ByteArray := prog_9_method_50_code
abbrev yM_floorModII : MethodName := ⟨"java/lang/Math", "floorMod", "(II)I"⟩
abbrev wsM_floorModII : List Cond := .code ⟨"java/lang/Math", "floorMod", "(II)I"⟩ prog_9_method_50_code 3 (some .int) :: wT
theorem dM_floorModII_0 : decode cM_floorModII 0 = .ok (.iload_n 0, 1) := by decide +kernel
theorem dM_floorModII_1 : decode cM_floorModII 1 = .ok (.iload_n 1, 1) := by decide +kernel
theorem dM_floorModII_2 : decode cM_floorModII 2 = .ok (.irem, 1) := by decide +kernel
theorem dM_floorModII_3 : decode cM_floorModII 3 = .ok (.istore_n 2, 1) := by decide +kernel
theorem dM_floorModII_4 : decode cM_floorModII 4 = .ok (.iload_n 0, 1) := by decide +kernel
theorem dM_floorModII_5 : decode cM_floorModII 5 = .ok (.iload_n 1, 1) := by decide +kernel
theorem dM_floorModII_6 : decode cM_floorModII 6 = .ok (.ixor, 1) := by decide +kernel
theorem dM_floorModII_7 : decode cM_floorModII 7 = .ok (.ifCond .ge 11, 3) := by decide +kernel
theorem dM_floorModII_10 : decode cM_floorModII 10 = .ok (.iload_n 2, 1) := by decide +kernel
theorem dM_floorModII_11 : decode cM_floorModII 11 = .ok (.ifCond .eq 7, 3) := by decide +kernel
theorem dM_floorModII_14 : decode cM_floorModII 14 = .ok (.iload_n 2, 1) := by decide +kernel
theorem dM_floorModII_15 : decode cM_floorModII 15 = .ok (.iload_n 1, 1) := by decide +kernel
theorem dM_floorModII_16 : decode cM_floorModII 16 = .ok (.iadd, 1) := by decide +kernel
theorem dM_floorModII_17 : decode cM_floorModII 17 = .ok (.ireturn, 1) := by decide +kernel
theorem dM_floorModII_18 : decode cM_floorModII 18 = .ok (.iload_n 2, 1) := by decide +kernel
theorem dM_floorModII_19 : decode cM_floorModII 19 = .ok (.ireturn, 1) := by decide +kernel
abbrev cM_floorModJJ : ByteArray := prog_9_method_52_code
abbrev yM_floorModJJ : MethodName := ⟨"java/lang/Math", "floorMod", "(JJ)J"⟩
abbrev wsM_floorModJJ : List Cond := .code ⟨"java/lang/Math", "floorMod", "(JJ)J"⟩ prog_9_method_52_code 6 (some .long) :: wT
theorem dM_floorModJJ_0 : decode cM_floorModJJ 0 = .ok (.lload_n 0, 1) := by decide +kernel
theorem dM_floorModJJ_1 : decode cM_floorModJJ 1 = .ok (.lload_n 2, 1) := by decide +kernel
theorem dM_floorModJJ_2 : decode cM_floorModJJ 2 = .ok (.lrem, 1) := by decide +kernel
theorem dM_floorModJJ_3 : decode cM_floorModJJ 3 = .ok (.lstore 4, 2) := by decide +kernel
theorem dM_floorModJJ_5 : decode cM_floorModJJ 5 = .ok (.lload_n 0, 1) := by decide +kernel
theorem dM_floorModJJ_6 : decode cM_floorModJJ 6 = .ok (.lload_n 2, 1) := by decide +kernel
theorem dM_floorModJJ_7 : decode cM_floorModJJ 7 = .ok (.lxor, 1) := by decide +kernel
theorem dM_floorModJJ_8 : decode cM_floorModJJ 8 = .ok (.lconst 0, 1) := by decide +kernel
theorem dM_floorModJJ_9 : decode cM_floorModJJ 9 = .ok (.lcmp, 1) := by decide +kernel
theorem dM_floorModJJ_10 : decode cM_floorModJJ 10 = .ok (.ifCond .ge 15, 3) := by decide +kernel
theorem dM_floorModJJ_13 : decode cM_floorModJJ 13 = .ok (.lload 4, 2) := by decide +kernel
theorem dM_floorModJJ_15 : decode cM_floorModJJ 15 = .ok (.lconst 0, 1) := by decide +kernel
theorem dM_floorModJJ_16 : decode cM_floorModJJ 16 = .ok (.lcmp, 1) := by decide +kernel
theorem dM_floorModJJ_17 : decode cM_floorModJJ 17 = .ok (.ifCond .eq 8, 3) := by decide +kernel
theorem dM_floorModJJ_20 : decode cM_floorModJJ 20 = .ok (.lload 4, 2) := by decide +kernel
theorem dM_floorModJJ_22 : decode cM_floorModJJ 22 = .ok (.lload_n 2, 1) := by decide +kernel
theorem dM_floorModJJ_23 : decode cM_floorModJJ 23 = .ok (.ladd, 1) := by decide +kernel
theorem dM_floorModJJ_24 : decode cM_floorModJJ 24 = .ok (.lreturn, 1) := by decide +kernel
theorem dM_floorModJJ_25 : decode cM_floorModJJ 25 = .ok (.lload 4, 2) := by decide +kernel
theorem dM_floorModJJ_27 : decode cM_floorModJJ 27 = .ok (.lreturn, 1) := by decide +kernel
abbrev cM_floorDivII : ByteArray := prog_9_method_47_code
abbrev yM_floorDivII : MethodName := ⟨"java/lang/Math", "floorDiv", "(II)I"⟩
abbrev wsM_floorDivII : List Cond := .code ⟨"java/lang/Math", "floorDiv", "(II)I"⟩ prog_9_method_47_code 3 (some .int) :: wT
theorem dM_floorDivII_0 : decode cM_floorDivII 0 = .ok (.iload_n 0, 1) := by decide +kernel
theorem dM_floorDivII_1 : decode cM_floorDivII 1 = .ok (.iload_n 1, 1) := by decide +kernel
theorem dM_floorDivII_2 : decode cM_floorDivII 2 = .ok (.idiv, 1) := by decide +kernel
theorem dM_floorDivII_3 : decode cM_floorDivII 3 = .ok (.istore_n 2, 1) := by decide +kernel
theorem dM_floorDivII_4 : decode cM_floorDivII 4 = .ok (.iload_n 0, 1) := by decide +kernel
theorem dM_floorDivII_5 : decode cM_floorDivII 5 = .ok (.iload_n 1, 1) := by decide +kernel
theorem dM_floorDivII_6 : decode cM_floorDivII 6 = .ok (.ixor, 1) := by decide +kernel
theorem dM_floorDivII_7 : decode cM_floorDivII 7 = .ok (.ifCond .ge 14, 3) := by decide +kernel
theorem dM_floorDivII_10 : decode cM_floorDivII 10 = .ok (.iload_n 2, 1) := by decide +kernel
theorem dM_floorDivII_11 : decode cM_floorDivII 11 = .ok (.iload_n 1, 1) := by decide +kernel
theorem dM_floorDivII_12 : decode cM_floorDivII 12 = .ok (.imul, 1) := by decide +kernel
theorem dM_floorDivII_13 : decode cM_floorDivII 13 = .ok (.iload_n 0, 1) := by decide +kernel
theorem dM_floorDivII_14 : decode cM_floorDivII 14 = .ok (.if_icmp .eq 7, 3) := by decide +kernel
theorem dM_floorDivII_17 : decode cM_floorDivII 17 = .ok (.iload_n 2, 1) := by decide +kernel
theorem dM_floorDivII_18 : decode cM_floorDivII 18 = .ok (.iconst 1, 1) := by decide +kernel
theorem dM_floorDivII_19 : decode cM_floorDivII 19 = .ok (.isub, 1) := by decide +kernel
theorem dM_floorDivII_20 : decode cM_floorDivII 20 = .ok (.ireturn, 1) := by decide +kernel
theorem dM_floorDivII_21 : decode cM_floorDivII 21 = .ok (.iload_n 2, 1) := by decide +kernel
theorem dM_floorDivII_22 : decode cM_floorDivII 22 = .ok (.ireturn, 1) := by decide +kernel
abbrev cY_fill : ByteArray := prog_13_method_103_code
abbrev yY_fill : MethodName := ⟨"java/util/Arrays", "fill", "([II)V"⟩
abbrev wsY_fill : List Cond := .code ⟨"java/util/Arrays", "fill", "([II)V"⟩ prog_13_method_103_code 4 none :: wT
theorem dY_fill_0 : decode cY_fill 0 = .ok (.iconst 0, 1) := by decide +kernel
theorem dY_fill_1 : decode cY_fill 1 = .ok (.istore_n 2, 1) := by decide +kernel
theorem dY_fill_2 : decode cY_fill 2 = .ok (.aload_n 0, 1) := by decide +kernel
theorem dY_fill_3 : decode cY_fill 3 = .ok (.arraylength, 1) := by decide +kernel
theorem dY_fill_4 : decode cY_fill 4 = .ok (.istore_n 3, 1) := by decide +kernel
theorem dY_fill_5 : decode cY_fill 5 = .ok (.iload_n 2, 1) := by decide +kernel
theorem dY_fill_6 : decode cY_fill 6 = .ok (.iload_n 3, 1) := by decide +kernel
theorem dY_fill_7 : decode cY_fill 7 = .ok (.if_icmp .ge 13, 3) := by decide +kernel
theorem dY_fill_10 : decode cY_fill 10 = .ok (.aload_n 0, 1) := by decide +kernel
theorem dY_fill_11 : decode cY_fill 11 = .ok (.iload_n 2, 1) := by decide +kernel
theorem dY_fill_12 : decode cY_fill 12 = .ok (.iload_n 1, 1) := by decide +kernel
theorem dY_fill_13 : decode cY_fill 13 = .ok (.iastore, 1) := by decide +kernel
theorem dY_fill_14 : decode cY_fill 14 = .ok (.iinc 2 1, 3) := by decide +kernel
theorem dY_fill_17 : decode cY_fill 17 = .ok (.goto (-12), 3) := by decide +kernel
theorem dY_fill_20 : decode cY_fill 20 = .ok (.return_, 1) := by decide +kernel
abbrev cX1_set : ByteArray := prog_3_method_2_code
abbrev yX1_set : MethodName := ⟨"ClassGroup$Form", "set", "(JJJ)V"⟩
abbrev wsX1_set : List Cond := .code ⟨"ClassGroup$Form", "set", "(JJJ)V"⟩ prog_3_method_2_code 7 none :: wT
theorem dX1_set_0 : decode cX1_set 0 = .ok (.aload_n 0, 1) := by decide +kernel
theorem dX1_set_1 : decode cX1_set 1 = .ok (.lload_n 1, 1) := by decide +kernel
theorem dX1_set_2 : decode cX1_set 2 = .ok (.putfield 7, 3) := by decide +kernel
theorem dX1_set_5 : decode cX1_set 5 = .ok (.aload_n 0, 1) := by decide +kernel
theorem dX1_set_6 : decode cX1_set 6 = .ok (.lload_n 3, 1) := by decide +kernel
theorem dX1_set_7 : decode cX1_set 7 = .ok (.putfield 13, 3) := by decide +kernel
theorem dX1_set_10 : decode cX1_set 10 = .ok (.aload_n 0, 1) := by decide +kernel
theorem dX1_set_11 : decode cX1_set 11 = .ok (.lload 5, 2) := by decide +kernel
theorem dX1_set_13 : decode cX1_set 13 = .ok (.putfield 16, 3) := by decide +kernel
theorem dX1_set_16 : decode cX1_set 16 = .ok (.return_, 1) := by decide +kernel
abbrev cX2_solve : ByteArray := prog_2_method_2_code
abbrev yX2_solve : MethodName := ⟨"ClassGroup$Bezout", "solve", "(JJ)V"⟩
abbrev wsX2_solve : List Cond := .code ⟨"ClassGroup$Bezout", "solve", "(JJ)V"⟩ prog_2_method_2_code 20 none :: wT
theorem dX2_solve_0 : decode cX2_solve 0 = .ok (.aload_n 0, 1) := by decide +kernel
theorem dX2_solve_1 : decode cX2_solve 1 = .ok (.lload_n 1, 1) := by decide +kernel
theorem dX2_solve_2 : decode cX2_solve 2 = .ok (.putfield 9, 3) := by decide +kernel
theorem dX2_solve_5 : decode cX2_solve 5 = .ok (.aload_n 0, 1) := by decide +kernel
theorem dX2_solve_6 : decode cX2_solve 6 = .ok (.lconst 1, 1) := by decide +kernel
theorem dX2_solve_7 : decode cX2_solve 7 = .ok (.putfield 15, 3) := by decide +kernel
theorem dX2_solve_10 : decode cX2_solve 10 = .ok (.aload_n 0, 1) := by decide +kernel
theorem dX2_solve_11 : decode cX2_solve 11 = .ok (.lconst 0, 1) := by decide +kernel
theorem dX2_solve_12 : decode cX2_solve 12 = .ok (.putfield 18, 3) := by decide +kernel
theorem dX2_solve_15 : decode cX2_solve 15 = .ok (.lload_n 3, 1) := by decide +kernel
theorem dX2_solve_16 : decode cX2_solve 16 = .ok (.lstore 5, 2) := by decide +kernel
theorem dX2_solve_18 : decode cX2_solve 18 = .ok (.lconst 0, 1) := by decide +kernel
theorem dX2_solve_19 : decode cX2_solve 19 = .ok (.lstore 7, 2) := by decide +kernel
theorem dX2_solve_21 : decode cX2_solve 21 = .ok (.lconst 1, 1) := by decide +kernel
theorem dX2_solve_22 : decode cX2_solve 22 = .ok (.lstore 9, 2) := by decide +kernel
theorem dX2_solve_24 : decode cX2_solve 24 = .ok (.iconst 0, 1) := by decide +kernel
theorem dX2_solve_25 : decode cX2_solve 25 = .ok (.istore 11, 2) := by decide +kernel
theorem dX2_solve_27 : decode cX2_solve 27 = .ok (.iload 11, 2) := by decide +kernel
theorem dX2_solve_29 : decode cX2_solve 29 = .ok (.ldc 21, 2) := by decide +kernel
theorem dX2_solve_31 : decode cX2_solve 31 = .ok (.if_icmp .ge 91, 3) := by decide +kernel
theorem dX2_solve_34 : decode cX2_solve 34 = .ok (.lload 5, 2) := by decide +kernel
theorem dX2_solve_36 : decode cX2_solve 36 = .ok (.lconst 0, 1) := by decide +kernel
theorem dX2_solve_37 : decode cX2_solve 37 = .ok (.lcmp, 1) := by decide +kernel
theorem dX2_solve_38 : decode cX2_solve 38 = .ok (.ifCond .eq 84, 3) := by decide +kernel
theorem dX2_solve_41 : decode cX2_solve 41 = .ok (.aload_n 0, 1) := by decide +kernel
theorem dX2_solve_42 : decode cX2_solve 42 = .ok (.getfield 9, 3) := by decide +kernel
theorem dX2_solve_45 : decode cX2_solve 45 = .ok (.lload 5, 2) := by decide +kernel
theorem dX2_solve_47 : decode cX2_solve 47 = .ok (.ldiv, 1) := by decide +kernel
theorem dX2_solve_48 : decode cX2_solve 48 = .ok (.lstore 12, 2) := by decide +kernel
theorem dX2_solve_50 : decode cX2_solve 50 = .ok (.aload_n 0, 1) := by decide +kernel
theorem dX2_solve_51 : decode cX2_solve 51 = .ok (.getfield 9, 3) := by decide +kernel
theorem dX2_solve_54 : decode cX2_solve 54 = .ok (.lload 12, 2) := by decide +kernel
theorem dX2_solve_56 : decode cX2_solve 56 = .ok (.lload 5, 2) := by decide +kernel
theorem dX2_solve_58 : decode cX2_solve 58 = .ok (.lmul, 1) := by decide +kernel
theorem dX2_solve_59 : decode cX2_solve 59 = .ok (.lsub, 1) := by decide +kernel
theorem dX2_solve_60 : decode cX2_solve 60 = .ok (.lstore 14, 2) := by decide +kernel
theorem dX2_solve_62 : decode cX2_solve 62 = .ok (.aload_n 0, 1) := by decide +kernel
theorem dX2_solve_63 : decode cX2_solve 63 = .ok (.getfield 15, 3) := by decide +kernel
theorem dX2_solve_66 : decode cX2_solve 66 = .ok (.lload 12, 2) := by decide +kernel
theorem dX2_solve_68 : decode cX2_solve 68 = .ok (.lload 7, 2) := by decide +kernel
theorem dX2_solve_70 : decode cX2_solve 70 = .ok (.lmul, 1) := by decide +kernel
theorem dX2_solve_71 : decode cX2_solve 71 = .ok (.lsub, 1) := by decide +kernel
theorem dX2_solve_72 : decode cX2_solve 72 = .ok (.lstore 16, 2) := by decide +kernel
theorem dX2_solve_74 : decode cX2_solve 74 = .ok (.aload_n 0, 1) := by decide +kernel
theorem dX2_solve_75 : decode cX2_solve 75 = .ok (.getfield 18, 3) := by decide +kernel
theorem dX2_solve_78 : decode cX2_solve 78 = .ok (.lload 12, 2) := by decide +kernel
theorem dX2_solve_80 : decode cX2_solve 80 = .ok (.lload 9, 2) := by decide +kernel
theorem dX2_solve_82 : decode cX2_solve 82 = .ok (.lmul, 1) := by decide +kernel
theorem dX2_solve_83 : decode cX2_solve 83 = .ok (.lsub, 1) := by decide +kernel
theorem dX2_solve_84 : decode cX2_solve 84 = .ok (.lstore 18, 2) := by decide +kernel
theorem dX2_solve_86 : decode cX2_solve 86 = .ok (.aload_n 0, 1) := by decide +kernel
theorem dX2_solve_87 : decode cX2_solve 87 = .ok (.lload 5, 2) := by decide +kernel
theorem dX2_solve_89 : decode cX2_solve 89 = .ok (.putfield 9, 3) := by decide +kernel
theorem dX2_solve_92 : decode cX2_solve 92 = .ok (.aload_n 0, 1) := by decide +kernel
theorem dX2_solve_93 : decode cX2_solve 93 = .ok (.lload 7, 2) := by decide +kernel
theorem dX2_solve_95 : decode cX2_solve 95 = .ok (.putfield 15, 3) := by decide +kernel
theorem dX2_solve_98 : decode cX2_solve 98 = .ok (.aload_n 0, 1) := by decide +kernel
theorem dX2_solve_99 : decode cX2_solve 99 = .ok (.lload 9, 2) := by decide +kernel
theorem dX2_solve_101 : decode cX2_solve 101 = .ok (.putfield 18, 3) := by decide +kernel
theorem dX2_solve_104 : decode cX2_solve 104 = .ok (.lload 14, 2) := by decide +kernel
theorem dX2_solve_106 : decode cX2_solve 106 = .ok (.lstore 5, 2) := by decide +kernel
theorem dX2_solve_108 : decode cX2_solve 108 = .ok (.lload 16, 2) := by decide +kernel
theorem dX2_solve_110 : decode cX2_solve 110 = .ok (.lstore 7, 2) := by decide +kernel
theorem dX2_solve_112 : decode cX2_solve 112 = .ok (.lload 18, 2) := by decide +kernel
theorem dX2_solve_114 : decode cX2_solve 114 = .ok (.lstore 9, 2) := by decide +kernel
theorem dX2_solve_116 : decode cX2_solve 116 = .ok (.iinc 11 1, 3) := by decide +kernel
theorem dX2_solve_119 : decode cX2_solve 119 = .ok (.goto (-92), 3) := by decide +kernel
theorem dX2_solve_122 : decode cX2_solve 122 = .ok (.aload_n 0, 1) := by decide +kernel
theorem dX2_solve_123 : decode cX2_solve 123 = .ok (.getfield 9, 3) := by decide +kernel
theorem dX2_solve_126 : decode cX2_solve 126 = .ok (.lconst 0, 1) := by decide +kernel
theorem dX2_solve_127 : decode cX2_solve 127 = .ok (.lcmp, 1) := by decide +kernel
theorem dX2_solve_128 : decode cX2_solve 128 = .ok (.ifCond .ge 30, 3) := by decide +kernel
theorem dX2_solve_131 : decode cX2_solve 131 = .ok (.aload_n 0, 1) := by decide +kernel
theorem dX2_solve_132 : decode cX2_solve 132 = .ok (.aload_n 0, 1) := by decide +kernel
theorem dX2_solve_133 : decode cX2_solve 133 = .ok (.getfield 9, 3) := by decide +kernel
theorem dX2_solve_136 : decode cX2_solve 136 = .ok (.lneg, 1) := by decide +kernel
theorem dX2_solve_137 : decode cX2_solve 137 = .ok (.putfield 9, 3) := by decide +kernel
theorem dX2_solve_140 : decode cX2_solve 140 = .ok (.aload_n 0, 1) := by decide +kernel
theorem dX2_solve_141 : decode cX2_solve 141 = .ok (.aload_n 0, 1) := by decide +kernel
theorem dX2_solve_142 : decode cX2_solve 142 = .ok (.getfield 15, 3) := by decide +kernel
theorem dX2_solve_145 : decode cX2_solve 145 = .ok (.lneg, 1) := by decide +kernel
theorem dX2_solve_146 : decode cX2_solve 146 = .ok (.putfield 15, 3) := by decide +kernel
theorem dX2_solve_149 : decode cX2_solve 149 = .ok (.aload_n 0, 1) := by decide +kernel
theorem dX2_solve_150 : decode cX2_solve 150 = .ok (.aload_n 0, 1) := by decide +kernel
theorem dX2_solve_151 : decode cX2_solve 151 = .ok (.getfield 18, 3) := by decide +kernel
theorem dX2_solve_154 : decode cX2_solve 154 = .ok (.lneg, 1) := by decide +kernel
theorem dX2_solve_155 : decode cX2_solve 155 = .ok (.putfield 18, 3) := by decide +kernel
theorem dX2_solve_158 : decode cX2_solve 158 = .ok (.return_, 1) := by decide +kernel
