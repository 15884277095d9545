abbrev cX0_learnGroup : ByteArray := prog_1_method_38_code
abbrev yX0_learnGroup : MethodName := ⟨"ClassGroup", "learnGroup", "()V"⟩
abbrev wsX0_learnGroup : List Cond := .code ⟨"ClassGroup", "learnGroup", "()V"⟩ prog_1_method_38_code 3 none :: wT
theorem dX0_learnGroup_0 : decode cX0_learnGroup 0 = .ok (.aload_n 0, 1) := by decide +kernel
theorem dX0_learnGroup_1 : decode cX0_learnGroup 1 = .ok (.getfield 176, 3) := by decide +kernel
theorem dX0_learnGroup_4 : decode cX0_learnGroup 4 = .ok (.ifCond .eq 4, 3) := by decide +kernel
theorem dX0_learnGroup_7 : decode cX0_learnGroup 7 = .ok (.return_, 1) := by decide +kernel
theorem dX0_learnGroup_8 : decode cX0_learnGroup 8 = .ok (.aload_n 0, 1) := by decide +kernel
theorem dX0_learnGroup_9 : decode cX0_learnGroup 9 = .ok (.iconst 1, 1) := by decide +kernel
theorem dX0_learnGroup_10 : decode cX0_learnGroup 10 = .ok (.putfield 176, 3) := by decide +kernel
theorem dX0_learnGroup_13 : decode cX0_learnGroup 13 = .ok (.aload_n 0, 1) := by decide +kernel
theorem dX0_learnGroup_14 : decode cX0_learnGroup 14 = .ok (.invokevirtual 240, 3) := by decide +kernel
theorem dX0_learnGroup_17 : decode cX0_learnGroup 17 = .ok (.aload_n 0, 1) := by decide +kernel
theorem dX0_learnGroup_18 : decode cX0_learnGroup 18 = .ok (.getfield 22, 3) := by decide +kernel
theorem dX0_learnGroup_21 : decode cX0_learnGroup 21 = .ok (.iconst (-1), 1) := by decide +kernel
theorem dX0_learnGroup_22 : decode cX0_learnGroup 22 = .ok (.invokestatic 243, 3) := by decide +kernel
theorem dX0_learnGroup_25 : decode cX0_learnGroup 25 = .ok (.aload_n 0, 1) := by decide +kernel
theorem dX0_learnGroup_26 : decode cX0_learnGroup 26 = .ok (.getfield 25, 3) := by decide +kernel
theorem dX0_learnGroup_29 : decode cX0_learnGroup 29 = .ok (.iconst 0, 1) := by decide +kernel
theorem dX0_learnGroup_30 : decode cX0_learnGroup 30 = .ok (.aload_n 0, 1) := by decide +kernel
theorem dX0_learnGroup_31 : decode cX0_learnGroup 31 = .ok (.getfield 73, 3) := by decide +kernel
theorem dX0_learnGroup_34 : decode cX0_learnGroup 34 = .ok (.iastore, 1) := by decide +kernel
theorem dX0_learnGroup_35 : decode cX0_learnGroup 35 = .ok (.aload_n 0, 1) := by decide +kernel
theorem dX0_learnGroup_36 : decode cX0_learnGroup 36 = .ok (.aload_n 0, 1) := by decide +kernel
theorem dX0_learnGroup_37 : decode cX0_learnGroup 37 = .ok (.getfield 73, 3) := by decide +kernel
theorem dX0_learnGroup_40 : decode cX0_learnGroup 40 = .ok (.invokevirtual 82, 3) := by decide +kernel
theorem dX0_learnGroup_43 : decode cX0_learnGroup 43 = .ok (.ifCond .eq 13, 3) := by decide +kernel
theorem dX0_learnGroup_46 : decode cX0_learnGroup 46 = .ok (.aload_n 0, 1) := by decide +kernel
theorem dX0_learnGroup_47 : decode cX0_learnGroup 47 = .ok (.getfield 22, 3) := by decide +kernel
theorem dX0_learnGroup_50 : decode cX0_learnGroup 50 = .ok (.aload_n 0, 1) := by decide +kernel
theorem dX0_learnGroup_51 : decode cX0_learnGroup 51 = .ok (.getfield 73, 3) := by decide +kernel
theorem dX0_learnGroup_54 : decode cX0_learnGroup 54 = .ok (.iconst 0, 1) := by decide +kernel
theorem dX0_learnGroup_55 : decode cX0_learnGroup 55 = .ok (.iastore, 1) := by decide +kernel
theorem dX0_learnGroup_56 : decode cX0_learnGroup 56 = .ok (.aload_n 0, 1) := by decide +kernel
theorem dX0_learnGroup_57 : decode cX0_learnGroup 57 = .ok (.iconst 0, 1) := by decide +kernel
theorem dX0_learnGroup_58 : decode cX0_learnGroup 58 = .ok (.putfield 70, 3) := by decide +kernel
theorem dX0_learnGroup_61 : decode cX0_learnGroup 61 = .ok (.aload_n 0, 1) := by decide +kernel
theorem dX0_learnGroup_62 : decode cX0_learnGroup 62 = .ok (.getfield 16, 3) := by decide +kernel
theorem dX0_learnGroup_65 : decode cX0_learnGroup 65 = .ok (.iconst 0, 1) := by decide +kernel
theorem dX0_learnGroup_66 : decode cX0_learnGroup 66 = .ok (.iconst 1, 1) := by decide +kernel
theorem dX0_learnGroup_67 : decode cX0_learnGroup 67 = .ok (.iastore, 1) := by decide +kernel
theorem dX0_learnGroup_68 : decode cX0_learnGroup 68 = .ok (.iconst 0, 1) := by decide +kernel
theorem dX0_learnGroup_69 : decode cX0_learnGroup 69 = .ok (.istore_n 1, 1) := by decide +kernel
theorem dX0_learnGroup_70 : decode cX0_learnGroup 70 = .ok (.iload_n 1, 1) := by decide +kernel
theorem dX0_learnGroup_71 : decode cX0_learnGroup 71 = .ok (.bipush 11, 2) := by decide +kernel
theorem dX0_learnGroup_73 : decode cX0_learnGroup 73 = .ok (.if_icmp .ge 75, 3) := by decide +kernel
theorem dX0_learnGroup_76 : decode cX0_learnGroup 76 = .ok (.aload_n 0, 1) := by decide +kernel
theorem dX0_learnGroup_77 : decode cX0_learnGroup 77 = .ok (.getfield 16, 3) := by decide +kernel
theorem dX0_learnGroup_80 : decode cX0_learnGroup 80 = .ok (.iload_n 1, 1) := by decide +kernel
theorem dX0_learnGroup_81 : decode cX0_learnGroup 81 = .ok (.iaload, 1) := by decide +kernel
theorem dX0_learnGroup_82 : decode cX0_learnGroup 82 = .ok (.aload_n 0, 1) := by decide +kernel
theorem dX0_learnGroup_83 : decode cX0_learnGroup 83 = .ok (.getfield 60, 3) := by decide +kernel
theorem dX0_learnGroup_86 : decode cX0_learnGroup 86 = .ok (.if_icmp .ge 62, 3) := by decide +kernel
theorem dX0_learnGroup_89 : decode cX0_learnGroup 89 = .ok (.aload_n 0, 1) := by decide +kernel
theorem dX0_learnGroup_90 : decode cX0_learnGroup 90 = .ok (.aload_n 0, 1) := by decide +kernel
theorem dX0_learnGroup_91 : decode cX0_learnGroup 91 = .ok (.getfield 16, 3) := by decide +kernel
theorem dX0_learnGroup_94 : decode cX0_learnGroup 94 = .ok (.iload_n 1, 1) := by decide +kernel
theorem dX0_learnGroup_95 : decode cX0_learnGroup 95 = .ok (.iaload, 1) := by decide +kernel
theorem dX0_learnGroup_96 : decode cX0_learnGroup 96 = .ok (.invokevirtual 249, 3) := by decide +kernel
theorem dX0_learnGroup_99 : decode cX0_learnGroup 99 = .ok (.istore_n 2, 1) := by decide +kernel
theorem dX0_learnGroup_100 : decode cX0_learnGroup 100 = .ok (.aload_n 0, 1) := by decide +kernel
theorem dX0_learnGroup_101 : decode cX0_learnGroup 101 = .ok (.iload_n 2, 1) := by decide +kernel
theorem dX0_learnGroup_102 : decode cX0_learnGroup 102 = .ok (.invokevirtual 82, 3) := by decide +kernel
theorem dX0_learnGroup_105 : decode cX0_learnGroup 105 = .ok (.ifCond .ne 4, 3) := by decide +kernel
theorem dX0_learnGroup_108 : decode cX0_learnGroup 108 = .ok (.return_, 1) := by decide +kernel
theorem dX0_learnGroup_109 : decode cX0_learnGroup 109 = .ok (.aload_n 0, 1) := by decide +kernel
theorem dX0_learnGroup_110 : decode cX0_learnGroup 110 = .ok (.getfield 13, 3) := by decide +kernel
theorem dX0_learnGroup_113 : decode cX0_learnGroup 113 = .ok (.iload_n 1, 1) := by decide +kernel
theorem dX0_learnGroup_114 : decode cX0_learnGroup 114 = .ok (.iload_n 2, 1) := by decide +kernel
theorem dX0_learnGroup_115 : decode cX0_learnGroup 115 = .ok (.iastore, 1) := by decide +kernel
theorem dX0_learnGroup_116 : decode cX0_learnGroup 116 = .ok (.aload_n 0, 1) := by decide +kernel
theorem dX0_learnGroup_117 : decode cX0_learnGroup 117 = .ok (.iload_n 1, 1) := by decide +kernel
theorem dX0_learnGroup_118 : decode cX0_learnGroup 118 = .ok (.iconst 1, 1) := by decide +kernel
theorem dX0_learnGroup_119 : decode cX0_learnGroup 119 = .ok (.iadd, 1) := by decide +kernel
theorem dX0_learnGroup_120 : decode cX0_learnGroup 120 = .ok (.putfield 70, 3) := by decide +kernel
theorem dX0_learnGroup_123 : decode cX0_learnGroup 123 = .ok (.aload_n 0, 1) := by decide +kernel
theorem dX0_learnGroup_124 : decode cX0_learnGroup 124 = .ok (.getfield 16, 3) := by decide +kernel
theorem dX0_learnGroup_127 : decode cX0_learnGroup 127 = .ok (.iload_n 1, 1) := by decide +kernel
theorem dX0_learnGroup_128 : decode cX0_learnGroup 128 = .ok (.iconst 1, 1) := by decide +kernel
theorem dX0_learnGroup_129 : decode cX0_learnGroup 129 = .ok (.iadd, 1) := by decide +kernel
theorem dX0_learnGroup_130 : decode cX0_learnGroup 130 = .ok (.aload_n 0, 1) := by decide +kernel
theorem dX0_learnGroup_131 : decode cX0_learnGroup 131 = .ok (.iload_n 2, 1) := by decide +kernel
theorem dX0_learnGroup_132 : decode cX0_learnGroup 132 = .ok (.aload_n 0, 1) := by decide +kernel
theorem dX0_learnGroup_133 : decode cX0_learnGroup 133 = .ok (.getfield 16, 3) := by decide +kernel
theorem dX0_learnGroup_136 : decode cX0_learnGroup 136 = .ok (.iload_n 1, 1) := by decide +kernel
theorem dX0_learnGroup_137 : decode cX0_learnGroup 137 = .ok (.iaload, 1) := by decide +kernel
theorem dX0_learnGroup_138 : decode cX0_learnGroup 138 = .ok (.invokevirtual 252, 3) := by decide +kernel
theorem dX0_learnGroup_141 : decode cX0_learnGroup 141 = .ok (.iastore, 1) := by decide +kernel
theorem dX0_learnGroup_142 : decode cX0_learnGroup 142 = .ok (.iinc 1 1, 3) := by decide +kernel
theorem dX0_learnGroup_145 : decode cX0_learnGroup 145 = .ok (.goto (-75), 3) := by decide +kernel
theorem dX0_learnGroup_148 : decode cX0_learnGroup 148 = .ok (.return_, 1) := by decide +kernel
abbrev cX0_count : ByteArray := prog_1_method_3_code
abbrev yX0_count : MethodName := ⟨"ClassGroup", "count", "(I)I"⟩
abbrev wsX0_count : List Cond := .code ⟨"ClassGroup", "count", "(I)I"⟩ prog_1_method_3_code 2 (some .int) :: wT
theorem dX0_count_0 : decode cX0_count 0 = .ok (.iload_n 1, 1) := by decide +kernel
theorem dX0_count_1 : decode cX0_count 1 = .ok (.tableswitch 77 0 5 #[39, 44, 49, 58, 63, 72], 39) := by decide +kernel
theorem dX0_count_40 : decode cX0_count 40 = .ok (.aload_n 0, 1) := by decide +kernel
theorem dX0_count_41 : decode cX0_count 41 = .ok (.getfield 64, 3) := by decide +kernel
theorem dX0_count_44 : decode cX0_count 44 = .ok (.ireturn, 1) := by decide +kernel
theorem dX0_count_45 : decode cX0_count 45 = .ok (.aload_n 0, 1) := by decide +kernel
theorem dX0_count_46 : decode cX0_count 46 = .ok (.getfield 60, 3) := by decide +kernel
theorem dX0_count_49 : decode cX0_count 49 = .ok (.ireturn, 1) := by decide +kernel
theorem dX0_count_50 : decode cX0_count 50 = .ok (.aload_n 0, 1) := by decide +kernel
theorem dX0_count_51 : decode cX0_count 51 = .ok (.invokevirtual 67, 3) := by decide +kernel
theorem dX0_count_54 : decode cX0_count 54 = .ok (.aload_n 0, 1) := by decide +kernel
theorem dX0_count_55 : decode cX0_count 55 = .ok (.getfield 70, 3) := by decide +kernel
theorem dX0_count_58 : decode cX0_count 58 = .ok (.ireturn, 1) := by decide +kernel
theorem dX0_count_59 : decode cX0_count 59 = .ok (.aload_n 0, 1) := by decide +kernel
theorem dX0_count_60 : decode cX0_count 60 = .ok (.getfield 73, 3) := by decide +kernel
theorem dX0_count_63 : decode cX0_count 63 = .ok (.ireturn, 1) := by decide +kernel
theorem dX0_count_64 : decode cX0_count 64 = .ok (.aload_n 0, 1) := by decide +kernel
theorem dX0_count_65 : decode cX0_count 65 = .ok (.invokevirtual 67, 3) := by decide +kernel
theorem dX0_count_68 : decode cX0_count 68 = .ok (.aload_n 0, 1) := by decide +kernel
theorem dX0_count_69 : decode cX0_count 69 = .ok (.getfield 76, 3) := by decide +kernel
theorem dX0_count_72 : decode cX0_count 72 = .ok (.ireturn, 1) := by decide +kernel
theorem dX0_count_73 : decode cX0_count 73 = .ok (.aload_n 0, 1) := by decide +kernel
theorem dX0_count_74 : decode cX0_count 74 = .ok (.getfield 79, 3) := by decide +kernel
theorem dX0_count_77 : decode cX0_count 77 = .ok (.ireturn, 1) := by decide +kernel
theorem dX0_count_78 : decode cX0_count 78 = .ok (.iconst (-1), 1) := by decide +kernel
theorem dX0_count_79 : decode cX0_count 79 = .ok (.ireturn, 1) := by decide +kernel
