abbrev cX3_measure : ByteArray := prog_5_method_18_code
abbrev yX3_measure : MethodName := ⟨"ClassGroupModel", "measure", "(I)V"⟩
abbrev wsX3_measure : List Cond := .code ⟨"ClassGroupModel", "measure", "(I)V"⟩ prog_5_method_18_code 5 none :: wT
theorem dX3_measure_0 : decode cX3_measure 0 = .ok (.aload_n 0, 1) := by decide +kernel
theorem dX3_measure_1 : decode cX3_measure 1 = .ok (.iconst 0, 1) := by decide +kernel
theorem dX3_measure_2 : decode cX3_measure 2 = .ok (.putfield 122, 3) := by decide +kernel
theorem dX3_measure_5 : decode cX3_measure 5 = .ok (.aload_n 0, 1) := by decide +kernel
theorem dX3_measure_6 : decode cX3_measure 6 = .ok (.getfield 115, 3) := by decide +kernel
theorem dX3_measure_9 : decode cX3_measure 9 = .ok (.istore_n 2, 1) := by decide +kernel
theorem dX3_measure_10 : decode cX3_measure 10 = .ok (.iconst 1, 1) := by decide +kernel
theorem dX3_measure_11 : decode cX3_measure 11 = .ok (.istore_n 3, 1) := by decide +kernel
theorem dX3_measure_12 : decode cX3_measure 12 = .ok (.iload_n 3, 1) := by decide +kernel
theorem dX3_measure_13 : decode cX3_measure 13 = .ok (.ifCond .eq 47, 3) := by decide +kernel
theorem dX3_measure_16 : decode cX3_measure 16 = .ok (.aload_n 0, 1) := by decide +kernel
theorem dX3_measure_17 : decode cX3_measure 17 = .ok (.iload_n 2, 1) := by decide +kernel
theorem dX3_measure_18 : decode cX3_measure 18 = .ok (.iload_n 1, 1) := by decide +kernel
theorem dX3_measure_19 : decode cX3_measure 19 = .ok (.invokevirtual 118, 3) := by decide +kernel
theorem dX3_measure_22 : decode cX3_measure 22 = .ok (.istore_n 2, 1) := by decide +kernel
theorem dX3_measure_23 : decode cX3_measure 23 = .ok (.aload_n 0, 1) := by decide +kernel
theorem dX3_measure_24 : decode cX3_measure 24 = .ok (.getfield 37, 3) := by decide +kernel
theorem dX3_measure_27 : decode cX3_measure 27 = .ok (.aload_n 0, 1) := by decide +kernel
theorem dX3_measure_28 : decode cX3_measure 28 = .ok (.getfield 122, 3) := by decide +kernel
theorem dX3_measure_31 : decode cX3_measure 31 = .ok (.iload_n 2, 1) := by decide +kernel
theorem dX3_measure_32 : decode cX3_measure 32 = .ok (.iastore, 1) := by decide +kernel
theorem dX3_measure_33 : decode cX3_measure 33 = .ok (.aload_n 0, 1) := by decide +kernel
theorem dX3_measure_34 : decode cX3_measure 34 = .ok (.dup, 1) := by decide +kernel
theorem dX3_measure_35 : decode cX3_measure 35 = .ok (.getfield 122, 3) := by decide +kernel
theorem dX3_measure_38 : decode cX3_measure 38 = .ok (.iconst 1, 1) := by decide +kernel
theorem dX3_measure_39 : decode cX3_measure 39 = .ok (.iadd, 1) := by decide +kernel
theorem dX3_measure_40 : decode cX3_measure 40 = .ok (.putfield 122, 3) := by decide +kernel
theorem dX3_measure_43 : decode cX3_measure 43 = .ok (.iload_n 2, 1) := by decide +kernel
theorem dX3_measure_44 : decode cX3_measure 44 = .ok (.aload_n 0, 1) := by decide +kernel
theorem dX3_measure_45 : decode cX3_measure 45 = .ok (.getfield 115, 3) := by decide +kernel
theorem dX3_measure_48 : decode cX3_measure 48 = .ok (.if_icmp .eq 7, 3) := by decide +kernel
theorem dX3_measure_51 : decode cX3_measure 51 = .ok (.iconst 1, 1) := by decide +kernel
theorem dX3_measure_52 : decode cX3_measure 52 = .ok (.goto 4, 3) := by decide +kernel
theorem dX3_measure_55 : decode cX3_measure 55 = .ok (.iconst 0, 1) := by decide +kernel
theorem dX3_measure_56 : decode cX3_measure 56 = .ok (.istore_n 3, 1) := by decide +kernel
theorem dX3_measure_57 : decode cX3_measure 57 = .ok (.goto (-45), 3) := by decide +kernel
theorem dX3_measure_60 : decode cX3_measure 60 = .ok (.iconst 0, 1) := by decide +kernel
theorem dX3_measure_61 : decode cX3_measure 61 = .ok (.istore 4, 2) := by decide +kernel
theorem dX3_measure_63 : decode cX3_measure 63 = .ok (.iload 4, 2) := by decide +kernel
theorem dX3_measure_65 : decode cX3_measure 65 = .ok (.aload_n 0, 1) := by decide +kernel
theorem dX3_measure_66 : decode cX3_measure 66 = .ok (.getfield 122, 3) := by decide +kernel
theorem dX3_measure_69 : decode cX3_measure 69 = .ok (.if_icmp .ge 40, 3) := by decide +kernel
theorem dX3_measure_72 : decode cX3_measure 72 = .ok (.aload_n 0, 1) := by decide +kernel
theorem dX3_measure_73 : decode cX3_measure 73 = .ok (.getfield 23, 3) := by decide +kernel
theorem dX3_measure_76 : decode cX3_measure 76 = .ok (.aload_n 0, 1) := by decide +kernel
theorem dX3_measure_77 : decode cX3_measure 77 = .ok (.getfield 37, 3) := by decide +kernel
theorem dX3_measure_80 : decode cX3_measure 80 = .ok (.iload 4, 2) := by decide +kernel
theorem dX3_measure_82 : decode cX3_measure 82 = .ok (.iaload, 1) := by decide +kernel
theorem dX3_measure_83 : decode cX3_measure 83 = .ok (.aload_n 0, 1) := by decide +kernel
theorem dX3_measure_84 : decode cX3_measure 84 = .ok (.getfield 122, 3) := by decide +kernel
theorem dX3_measure_87 : decode cX3_measure 87 = .ok (.aload_n 0, 1) := by decide +kernel
theorem dX3_measure_88 : decode cX3_measure 88 = .ok (.getfield 122, 3) := by decide +kernel
theorem dX3_measure_91 : decode cX3_measure 91 = .ok (.i2l, 1) := by decide +kernel
theorem dX3_measure_92 : decode cX3_measure 92 = .ok (.iload 4, 2) := by decide +kernel
theorem dX3_measure_94 : decode cX3_measure 94 = .ok (.iconst 1, 1) := by decide +kernel
theorem dX3_measure_95 : decode cX3_measure 95 = .ok (.iadd, 1) := by decide +kernel
theorem dX3_measure_96 : decode cX3_measure 96 = .ok (.i2l, 1) := by decide +kernel
theorem dX3_measure_97 : decode cX3_measure 97 = .ok (.invokestatic 90, 3) := by decide +kernel
theorem dX3_measure_100 : decode cX3_measure 100 = .ok (.l2i, 1) := by decide +kernel
theorem dX3_measure_101 : decode cX3_measure 101 = .ok (.idiv, 1) := by decide +kernel
theorem dX3_measure_102 : decode cX3_measure 102 = .ok (.iastore, 1) := by decide +kernel
theorem dX3_measure_103 : decode cX3_measure 103 = .ok (.iinc 4 1, 3) := by decide +kernel
theorem dX3_measure_106 : decode cX3_measure 106 = .ok (.goto (-43), 3) := by decide +kernel
theorem dX3_measure_109 : decode cX3_measure 109 = .ok (.return_, 1) := by decide +kernel
abbrev cX3_isApart : ByteArray := prog_5_method_19_code
abbrev yX3_isApart : MethodName := ⟨"ClassGroupModel", "isApart", "(I)Z"⟩
abbrev wsX3_isApart : List Cond := .code ⟨"ClassGroupModel", "isApart", "(I)Z"⟩ prog_5_method_19_code 3 (some .boolean) :: wT
theorem dX3_isApart_0 : decode cX3_isApart 0 = .ok (.iload_n 1, 1) := by decide +kernel
theorem dX3_isApart_1 : decode cX3_isApart 1 = .ok (.istore_n 2, 1) := by decide +kernel
theorem dX3_isApart_2 : decode cX3_isApart 2 = .ok (.iload_n 2, 1) := by decide +kernel
theorem dX3_isApart_3 : decode cX3_isApart 3 = .ok (.aload_n 0, 1) := by decide +kernel
theorem dX3_isApart_4 : decode cX3_isApart 4 = .ok (.getfield 115, 3) := by decide +kernel
theorem dX3_isApart_7 : decode cX3_isApart 7 = .ok (.if_icmp .eq 22, 3) := by decide +kernel
theorem dX3_isApart_10 : decode cX3_isApart 10 = .ok (.aload_n 0, 1) := by decide +kernel
theorem dX3_isApart_11 : decode cX3_isApart 11 = .ok (.getfield 26, 3) := by decide +kernel
theorem dX3_isApart_14 : decode cX3_isApart 14 = .ok (.iload_n 2, 1) := by decide +kernel
theorem dX3_isApart_15 : decode cX3_isApart 15 = .ok (.baload, 1) := by decide +kernel
theorem dX3_isApart_16 : decode cX3_isApart 16 = .ok (.ifCond .ne 13, 3) := by decide +kernel
theorem dX3_isApart_19 : decode cX3_isApart 19 = .ok (.aload_n 0, 1) := by decide +kernel
theorem dX3_isApart_20 : decode cX3_isApart 20 = .ok (.iload_n 2, 1) := by decide +kernel
theorem dX3_isApart_21 : decode cX3_isApart 21 = .ok (.iload_n 1, 1) := by decide +kernel
theorem dX3_isApart_22 : decode cX3_isApart 22 = .ok (.invokevirtual 118, 3) := by decide +kernel
theorem dX3_isApart_25 : decode cX3_isApart 25 = .ok (.istore_n 2, 1) := by decide +kernel
theorem dX3_isApart_26 : decode cX3_isApart 26 = .ok (.goto (-24), 3) := by decide +kernel
theorem dX3_isApart_29 : decode cX3_isApart 29 = .ok (.iload_n 2, 1) := by decide +kernel
theorem dX3_isApart_30 : decode cX3_isApart 30 = .ok (.aload_n 0, 1) := by decide +kernel
theorem dX3_isApart_31 : decode cX3_isApart 31 = .ok (.getfield 115, 3) := by decide +kernel
theorem dX3_isApart_34 : decode cX3_isApart 34 = .ok (.if_icmp .ne 15, 3) := by decide +kernel
theorem dX3_isApart_37 : decode cX3_isApart 37 = .ok (.iload_n 1, 1) := by decide +kernel
theorem dX3_isApart_38 : decode cX3_isApart 38 = .ok (.aload_n 0, 1) := by decide +kernel
theorem dX3_isApart_39 : decode cX3_isApart 39 = .ok (.getfield 115, 3) := by decide +kernel
theorem dX3_isApart_42 : decode cX3_isApart 42 = .ok (.if_icmp .eq 7, 3) := by decide +kernel
theorem dX3_isApart_45 : decode cX3_isApart 45 = .ok (.iconst 1, 1) := by decide +kernel
theorem dX3_isApart_46 : decode cX3_isApart 46 = .ok (.goto 4, 3) := by decide +kernel
theorem dX3_isApart_49 : decode cX3_isApart 49 = .ok (.iconst 0, 1) := by decide +kernel
theorem dX3_isApart_50 : decode cX3_isApart 50 = .ok (.ireturn, 1) := by decide +kernel
abbrev cX3_join : ByteArray := prog_5_method_21_code
abbrev yX3_join : MethodName := ⟨"ClassGroupModel", "join", "(I)V"⟩
abbrev wsX3_join : List Cond := .code ⟨"ClassGroupModel", "join", "(I)V"⟩ prog_5_method_21_code 8 none :: wT
theorem dX3_join_0 : decode cX3_join 0 = .ok (.aload_n 0, 1) := by decide +kernel
theorem dX3_join_1 : decode cX3_join 1 = .ok (.getfield 34, 3) := by decide +kernel
theorem dX3_join_4 : decode cX3_join 4 = .ok (.aload_n 0, 1) := by decide +kernel
theorem dX3_join_5 : decode cX3_join 5 = .ok (.getfield 125, 3) := by decide +kernel
theorem dX3_join_8 : decode cX3_join 8 = .ok (.iload_n 1, 1) := by decide +kernel
theorem dX3_join_9 : decode cX3_join 9 = .ok (.iastore, 1) := by decide +kernel
theorem dX3_join_10 : decode cX3_join 10 = .ok (.aload_n 0, 1) := by decide +kernel
theorem dX3_join_11 : decode cX3_join 11 = .ok (.getfield 122, 3) := by decide +kernel
theorem dX3_join_14 : decode cX3_join 14 = .ok (.istore_n 2, 1) := by decide +kernel
theorem dX3_join_15 : decode cX3_join 15 = .ok (.iload_n 1, 1) := by decide +kernel
theorem dX3_join_16 : decode cX3_join 16 = .ok (.istore_n 3, 1) := by decide +kernel
theorem dX3_join_17 : decode cX3_join 17 = .ok (.iconst 1, 1) := by decide +kernel
theorem dX3_join_18 : decode cX3_join 18 = .ok (.istore 4, 2) := by decide +kernel
theorem dX3_join_20 : decode cX3_join 20 = .ok (.iload 4, 2) := by decide +kernel
theorem dX3_join_22 : decode cX3_join 22 = .ok (.aload_n 0, 1) := by decide +kernel
theorem dX3_join_23 : decode cX3_join 23 = .ok (.getfield 23, 3) := by decide +kernel
theorem dX3_join_26 : decode cX3_join 26 = .ok (.iload_n 1, 1) := by decide +kernel
theorem dX3_join_27 : decode cX3_join 27 = .ok (.iaload, 1) := by decide +kernel
theorem dX3_join_28 : decode cX3_join 28 = .ok (.if_icmp .ge 135, 3) := by decide +kernel
theorem dX3_join_31 : decode cX3_join 31 = .ok (.iconst 0, 1) := by decide +kernel
theorem dX3_join_32 : decode cX3_join 32 = .ok (.istore 5, 2) := by decide +kernel
theorem dX3_join_34 : decode cX3_join 34 = .ok (.iload 5, 2) := by decide +kernel
theorem dX3_join_36 : decode cX3_join 36 = .ok (.iload_n 2, 1) := by decide +kernel
theorem dX3_join_37 : decode cX3_join 37 = .ok (.if_icmp .ge 113, 3) := by decide +kernel
theorem dX3_join_40 : decode cX3_join 40 = .ok (.aload_n 0, 1) := by decide +kernel
theorem dX3_join_41 : decode cX3_join 41 = .ok (.aload_n 0, 1) := by decide +kernel
theorem dX3_join_42 : decode cX3_join 42 = .ok (.getfield 37, 3) := by decide +kernel
theorem dX3_join_45 : decode cX3_join 45 = .ok (.iload 5, 2) := by decide +kernel
theorem dX3_join_47 : decode cX3_join 47 = .ok (.iaload, 1) := by decide +kernel
theorem dX3_join_48 : decode cX3_join 48 = .ok (.iload_n 3, 1) := by decide +kernel
theorem dX3_join_49 : decode cX3_join 49 = .ok (.invokevirtual 118, 3) := by decide +kernel
theorem dX3_join_52 : decode cX3_join 52 = .ok (.istore 6, 2) := by decide +kernel
theorem dX3_join_54 : decode cX3_join 54 = .ok (.iconst 0, 1) := by decide +kernel
theorem dX3_join_55 : decode cX3_join 55 = .ok (.istore 7, 2) := by decide +kernel
theorem dX3_join_57 : decode cX3_join 57 = .ok (.iload 7, 2) := by decide +kernel
theorem dX3_join_59 : decode cX3_join 59 = .ok (.bipush 8, 2) := by decide +kernel
theorem dX3_join_61 : decode cX3_join 61 = .ok (.if_icmp .ge 54, 3) := by decide +kernel
theorem dX3_join_64 : decode cX3_join 64 = .ok (.aload_n 0, 1) := by decide +kernel
theorem dX3_join_65 : decode cX3_join 65 = .ok (.getfield 31, 3) := by decide +kernel
theorem dX3_join_68 : decode cX3_join 68 = .ok (.bipush 8, 2) := by decide +kernel
theorem dX3_join_70 : decode cX3_join 70 = .ok (.iload 6, 2) := by decide +kernel
theorem dX3_join_72 : decode cX3_join 72 = .ok (.imul, 1) := by decide +kernel
theorem dX3_join_73 : decode cX3_join 73 = .ok (.iload 7, 2) := by decide +kernel
theorem dX3_join_75 : decode cX3_join 75 = .ok (.iadd, 1) := by decide +kernel
theorem dX3_join_76 : decode cX3_join 76 = .ok (.iload 7, 2) := by decide +kernel
theorem dX3_join_78 : decode cX3_join 78 = .ok (.aload_n 0, 1) := by decide +kernel
theorem dX3_join_79 : decode cX3_join 79 = .ok (.getfield 125, 3) := by decide +kernel
theorem dX3_join_82 : decode cX3_join 82 = .ok (.if_icmp .ne 8, 3) := by decide +kernel
theorem dX3_join_85 : decode cX3_join 85 = .ok (.iload 4, 2) := by decide +kernel
theorem dX3_join_87 : decode cX3_join 87 = .ok (.goto 21, 3) := by decide +kernel
theorem dX3_join_90 : decode cX3_join 90 = .ok (.aload_n 0, 1) := by decide +kernel
theorem dX3_join_91 : decode cX3_join 91 = .ok (.getfield 31, 3) := by decide +kernel
theorem dX3_join_94 : decode cX3_join 94 = .ok (.bipush 8, 2) := by decide +kernel
theorem dX3_join_96 : decode cX3_join 96 = .ok (.aload_n 0, 1) := by decide +kernel
theorem dX3_join_97 : decode cX3_join 97 = .ok (.getfield 37, 3) := by decide +kernel
theorem dX3_join_100 : decode cX3_join 100 = .ok (.iload 5, 2) := by decide +kernel
theorem dX3_join_102 : decode cX3_join 102 = .ok (.iaload, 1) := by decide +kernel
theorem dX3_join_103 : decode cX3_join 103 = .ok (.imul, 1) := by decide +kernel
theorem dX3_join_104 : decode cX3_join 104 = .ok (.iload 7, 2) := by decide +kernel
theorem dX3_join_106 : decode cX3_join 106 = .ok (.iadd, 1) := by decide +kernel
theorem dX3_join_107 : decode cX3_join 107 = .ok (.iaload, 1) := by decide +kernel
theorem dX3_join_108 : decode cX3_join 108 = .ok (.iastore, 1) := by decide +kernel
theorem dX3_join_109 : decode cX3_join 109 = .ok (.iinc 7 1, 3) := by decide +kernel
theorem dX3_join_112 : decode cX3_join 112 = .ok (.goto (-55), 3) := by decide +kernel
theorem dX3_join_115 : decode cX3_join 115 = .ok (.aload_n 0, 1) := by decide +kernel
theorem dX3_join_116 : decode cX3_join 116 = .ok (.getfield 26, 3) := by decide +kernel
theorem dX3_join_119 : decode cX3_join 119 = .ok (.iload 6, 2) := by decide +kernel
theorem dX3_join_121 : decode cX3_join 121 = .ok (.iconst 1, 1) := by decide +kernel
theorem dX3_join_122 : decode cX3_join 122 = .ok (.bastore, 1) := by decide +kernel
theorem dX3_join_123 : decode cX3_join 123 = .ok (.aload_n 0, 1) := by decide +kernel
theorem dX3_join_124 : decode cX3_join 124 = .ok (.getfield 37, 3) := by decide +kernel
theorem dX3_join_127 : decode cX3_join 127 = .ok (.aload_n 0, 1) := by decide +kernel
theorem dX3_join_128 : decode cX3_join 128 = .ok (.getfield 122, 3) := by decide +kernel
theorem dX3_join_131 : decode cX3_join 131 = .ok (.iload 6, 2) := by decide +kernel
theorem dX3_join_133 : decode cX3_join 133 = .ok (.iastore, 1) := by decide +kernel
theorem dX3_join_134 : decode cX3_join 134 = .ok (.aload_n 0, 1) := by decide +kernel
theorem dX3_join_135 : decode cX3_join 135 = .ok (.dup, 1) := by decide +kernel
theorem dX3_join_136 : decode cX3_join 136 = .ok (.getfield 122, 3) := by decide +kernel
theorem dX3_join_139 : decode cX3_join 139 = .ok (.iconst 1, 1) := by decide +kernel
theorem dX3_join_140 : decode cX3_join 140 = .ok (.iadd, 1) := by decide +kernel
theorem dX3_join_141 : decode cX3_join 141 = .ok (.putfield 122, 3) := by decide +kernel
theorem dX3_join_144 : decode cX3_join 144 = .ok (.iinc 5 1, 3) := by decide +kernel
theorem dX3_join_147 : decode cX3_join 147 = .ok (.goto (-113), 3) := by decide +kernel
theorem dX3_join_150 : decode cX3_join 150 = .ok (.aload_n 0, 1) := by decide +kernel
theorem dX3_join_151 : decode cX3_join 151 = .ok (.iload_n 3, 1) := by decide +kernel
theorem dX3_join_152 : decode cX3_join 152 = .ok (.iload_n 1, 1) := by decide +kernel
theorem dX3_join_153 : decode cX3_join 153 = .ok (.invokevirtual 118, 3) := by decide +kernel
theorem dX3_join_156 : decode cX3_join 156 = .ok (.istore_n 3, 1) := by decide +kernel
theorem dX3_join_157 : decode cX3_join 157 = .ok (.iinc 4 1, 3) := by decide +kernel
theorem dX3_join_160 : decode cX3_join 160 = .ok (.goto (-140), 3) := by decide +kernel
theorem dX3_join_163 : decode cX3_join 163 = .ok (.aload_n 0, 1) := by decide +kernel
theorem dX3_join_164 : decode cX3_join 164 = .ok (.dup, 1) := by decide +kernel
theorem dX3_join_165 : decode cX3_join 165 = .ok (.getfield 125, 3) := by decide +kernel
theorem dX3_join_168 : decode cX3_join 168 = .ok (.iconst 1, 1) := by decide +kernel
theorem dX3_join_169 : decode cX3_join 169 = .ok (.iadd, 1) := by decide +kernel
theorem dX3_join_170 : decode cX3_join 170 = .ok (.putfield 125, 3) := by decide +kernel
theorem dX3_join_173 : decode cX3_join 173 = .ok (.return_, 1) := by decide +kernel
abbrev cX3_generate : ByteArray := prog_5_method_20_code
abbrev yX3_generate : MethodName := ⟨"ClassGroupModel", "generate", "()V"⟩
abbrev wsX3_generate : List Cond := .code ⟨"ClassGroupModel", "generate", "()V"⟩ prog_5_method_20_code 3 none :: wT
theorem dX3_generate_0 : decode cX3_generate 0 = .ok (.aload_n 0, 1) := by decide +kernel
theorem dX3_generate_1 : decode cX3_generate 1 = .ok (.iconst 0, 1) := by decide +kernel
theorem dX3_generate_2 : decode cX3_generate 2 = .ok (.putfield 125, 3) := by decide +kernel
theorem dX3_generate_5 : decode cX3_generate 5 = .ok (.iconst 0, 1) := by decide +kernel
theorem dX3_generate_6 : decode cX3_generate 6 = .ok (.istore_n 1, 1) := by decide +kernel
theorem dX3_generate_7 : decode cX3_generate 7 = .ok (.iload_n 1, 1) := by decide +kernel
theorem dX3_generate_8 : decode cX3_generate 8 = .ok (.aload_n 0, 1) := by decide +kernel
theorem dX3_generate_9 : decode cX3_generate 9 = .ok (.getfield 94, 3) := by decide +kernel
theorem dX3_generate_12 : decode cX3_generate 12 = .ok (.if_icmp .ge 28, 3) := by decide +kernel
theorem dX3_generate_15 : decode cX3_generate 15 = .ok (.aload_n 0, 1) := by decide +kernel
theorem dX3_generate_16 : decode cX3_generate 16 = .ok (.getfield 26, 3) := by decide +kernel
theorem dX3_generate_19 : decode cX3_generate 19 = .ok (.iload_n 1, 1) := by decide +kernel
theorem dX3_generate_20 : decode cX3_generate 20 = .ok (.iload_n 1, 1) := by decide +kernel
theorem dX3_generate_21 : decode cX3_generate 21 = .ok (.aload_n 0, 1) := by decide +kernel
theorem dX3_generate_22 : decode cX3_generate 22 = .ok (.getfield 115, 3) := by decide +kernel
theorem dX3_generate_25 : decode cX3_generate 25 = .ok (.if_icmp .ne 7, 3) := by decide +kernel
theorem dX3_generate_28 : decode cX3_generate 28 = .ok (.iconst 1, 1) := by decide +kernel
theorem dX3_generate_29 : decode cX3_generate 29 = .ok (.goto 4, 3) := by decide +kernel
theorem dX3_generate_32 : decode cX3_generate 32 = .ok (.iconst 0, 1) := by decide +kernel
theorem dX3_generate_33 : decode cX3_generate 33 = .ok (.bastore, 1) := by decide +kernel
theorem dX3_generate_34 : decode cX3_generate 34 = .ok (.iinc 1 1, 3) := by decide +kernel
theorem dX3_generate_37 : decode cX3_generate 37 = .ok (.goto (-30), 3) := by decide +kernel
theorem dX3_generate_40 : decode cX3_generate 40 = .ok (.iconst 0, 1) := by decide +kernel
theorem dX3_generate_41 : decode cX3_generate 41 = .ok (.istore_n 1, 1) := by decide +kernel
theorem dX3_generate_42 : decode cX3_generate 42 = .ok (.iload_n 1, 1) := by decide +kernel
theorem dX3_generate_43 : decode cX3_generate 43 = .ok (.bipush 8, 2) := by decide +kernel
theorem dX3_generate_45 : decode cX3_generate 45 = .ok (.if_icmp .ge 24, 3) := by decide +kernel
theorem dX3_generate_48 : decode cX3_generate 48 = .ok (.aload_n 0, 1) := by decide +kernel
theorem dX3_generate_49 : decode cX3_generate 49 = .ok (.getfield 31, 3) := by decide +kernel
theorem dX3_generate_52 : decode cX3_generate 52 = .ok (.bipush 8, 2) := by decide +kernel
theorem dX3_generate_54 : decode cX3_generate 54 = .ok (.aload_n 0, 1) := by decide +kernel
theorem dX3_generate_55 : decode cX3_generate 55 = .ok (.getfield 115, 3) := by decide +kernel
theorem dX3_generate_58 : decode cX3_generate 58 = .ok (.imul, 1) := by decide +kernel
theorem dX3_generate_59 : decode cX3_generate 59 = .ok (.iload_n 1, 1) := by decide +kernel
theorem dX3_generate_60 : decode cX3_generate 60 = .ok (.iadd, 1) := by decide +kernel
theorem dX3_generate_61 : decode cX3_generate 61 = .ok (.iconst 0, 1) := by decide +kernel
theorem dX3_generate_62 : decode cX3_generate 62 = .ok (.iastore, 1) := by decide +kernel
theorem dX3_generate_63 : decode cX3_generate 63 = .ok (.iinc 1 1, 3) := by decide +kernel
theorem dX3_generate_66 : decode cX3_generate 66 = .ok (.goto (-24), 3) := by decide +kernel
theorem dX3_generate_69 : decode cX3_generate 69 = .ok (.aload_n 0, 1) := by decide +kernel
theorem dX3_generate_70 : decode cX3_generate 70 = .ok (.iconst 1, 1) := by decide +kernel
theorem dX3_generate_71 : decode cX3_generate 71 = .ok (.putfield 122, 3) := by decide +kernel
theorem dX3_generate_74 : decode cX3_generate 74 = .ok (.aload_n 0, 1) := by decide +kernel
theorem dX3_generate_75 : decode cX3_generate 75 = .ok (.getfield 37, 3) := by decide +kernel
theorem dX3_generate_78 : decode cX3_generate 78 = .ok (.iconst 0, 1) := by decide +kernel
theorem dX3_generate_79 : decode cX3_generate 79 = .ok (.aload_n 0, 1) := by decide +kernel
theorem dX3_generate_80 : decode cX3_generate 80 = .ok (.getfield 115, 3) := by decide +kernel
theorem dX3_generate_83 : decode cX3_generate 83 = .ok (.iastore, 1) := by decide +kernel
theorem dX3_generate_84 : decode cX3_generate 84 = .ok (.iconst 0, 1) := by decide +kernel
theorem dX3_generate_85 : decode cX3_generate 85 = .ok (.istore_n 1, 1) := by decide +kernel
theorem dX3_generate_86 : decode cX3_generate 86 = .ok (.iload_n 1, 1) := by decide +kernel
theorem dX3_generate_87 : decode cX3_generate 87 = .ok (.ifCond .lt 71, 3) := by decide +kernel
theorem dX3_generate_90 : decode cX3_generate 90 = .ok (.iconst (-1), 1) := by decide +kernel
theorem dX3_generate_91 : decode cX3_generate 91 = .ok (.istore_n 1, 1) := by decide +kernel
theorem dX3_generate_92 : decode cX3_generate 92 = .ok (.iconst 0, 1) := by decide +kernel
theorem dX3_generate_93 : decode cX3_generate 93 = .ok (.istore_n 2, 1) := by decide +kernel
theorem dX3_generate_94 : decode cX3_generate 94 = .ok (.iload_n 2, 1) := by decide +kernel
theorem dX3_generate_95 : decode cX3_generate 95 = .ok (.aload_n 0, 1) := by decide +kernel
theorem dX3_generate_96 : decode cX3_generate 96 = .ok (.getfield 94, 3) := by decide +kernel
theorem dX3_generate_99 : decode cX3_generate 99 = .ok (.if_icmp .ge 47, 3) := by decide +kernel
theorem dX3_generate_102 : decode cX3_generate 102 = .ok (.iload_n 1, 1) := by decide +kernel
theorem dX3_generate_103 : decode cX3_generate 103 = .ok (.ifCond .lt 18, 3) := by decide +kernel
theorem dX3_generate_106 : decode cX3_generate 106 = .ok (.aload_n 0, 1) := by decide +kernel
theorem dX3_generate_107 : decode cX3_generate 107 = .ok (.getfield 23, 3) := by decide +kernel
theorem dX3_generate_110 : decode cX3_generate 110 = .ok (.iload_n 2, 1) := by decide +kernel
theorem dX3_generate_111 : decode cX3_generate 111 = .ok (.iaload, 1) := by decide +kernel
theorem dX3_generate_112 : decode cX3_generate 112 = .ok (.aload_n 0, 1) := by decide +kernel
theorem dX3_generate_113 : decode cX3_generate 113 = .ok (.getfield 23, 3) := by decide +kernel
theorem dX3_generate_116 : decode cX3_generate 116 = .ok (.iload_n 1, 1) := by decide +kernel
theorem dX3_generate_117 : decode cX3_generate 117 = .ok (.iaload, 1) := by decide +kernel
theorem dX3_generate_118 : decode cX3_generate 118 = .ok (.if_icmp .le 22, 3) := by decide +kernel
theorem dX3_generate_121 : decode cX3_generate 121 = .ok (.aload_n 0, 1) := by decide +kernel
theorem dX3_generate_122 : decode cX3_generate 122 = .ok (.getfield 26, 3) := by decide +kernel
theorem dX3_generate_125 : decode cX3_generate 125 = .ok (.iload_n 2, 1) := by decide +kernel
theorem dX3_generate_126 : decode cX3_generate 126 = .ok (.baload, 1) := by decide +kernel
theorem dX3_generate_127 : decode cX3_generate 127 = .ok (.ifCond .ne 13, 3) := by decide +kernel
theorem dX3_generate_130 : decode cX3_generate 130 = .ok (.aload_n 0, 1) := by decide +kernel
theorem dX3_generate_131 : decode cX3_generate 131 = .ok (.iload_n 2, 1) := by decide +kernel
theorem dX3_generate_132 : decode cX3_generate 132 = .ok (.invokevirtual 128, 3) := by decide +kernel
theorem dX3_generate_135 : decode cX3_generate 135 = .ok (.ifCond .eq 5, 3) := by decide +kernel
theorem dX3_generate_138 : decode cX3_generate 138 = .ok (.iload_n 2, 1) := by decide +kernel
theorem dX3_generate_139 : decode cX3_generate 139 = .ok (.istore_n 1, 1) := by decide +kernel
theorem dX3_generate_140 : decode cX3_generate 140 = .ok (.iinc 2 1, 3) := by decide +kernel
theorem dX3_generate_143 : decode cX3_generate 143 = .ok (.goto (-49), 3) := by decide +kernel
theorem dX3_generate_146 : decode cX3_generate 146 = .ok (.iload_n 1, 1) := by decide +kernel
theorem dX3_generate_147 : decode cX3_generate 147 = .ok (.ifCond .lt (-61), 3) := by decide +kernel
theorem dX3_generate_150 : decode cX3_generate 150 = .ok (.aload_n 0, 1) := by decide +kernel
theorem dX3_generate_151 : decode cX3_generate 151 = .ok (.iload_n 1, 1) := by decide +kernel
theorem dX3_generate_152 : decode cX3_generate 152 = .ok (.invokevirtual 132, 3) := by decide +kernel
theorem dX3_generate_155 : decode cX3_generate 155 = .ok (.goto (-69), 3) := by decide +kernel
theorem dX3_generate_158 : decode cX3_generate 158 = .ok (.return_, 1) := by decide +kernel
abbrev cX3_begin : ByteArray := prog_5_method_22_code
abbrev yX3_begin : MethodName := ⟨"ClassGroupModel", "begin", "(J)V"⟩
abbrev wsX3_begin : List Cond := .code ⟨"ClassGroupModel", "begin", "(J)V"⟩ prog_5_method_22_code 4 none :: wT
theorem dX3_begin_0 : decode cX3_begin 0 = .ok (.aload_n 0, 1) := by decide +kernel
theorem dX3_begin_1 : decode cX3_begin 1 = .ok (.lload_n 1, 1) := by decide +kernel
theorem dX3_begin_2 : decode cX3_begin 2 = .ok (.putfield 61, 3) := by decide +kernel
theorem dX3_begin_5 : decode cX3_begin 5 = .ok (.aload_n 0, 1) := by decide +kernel
theorem dX3_begin_6 : decode cX3_begin 6 = .ok (.aload_n 0, 1) := by decide +kernel
theorem dX3_begin_7 : decode cX3_begin 7 = .ok (.getfield 61, 3) := by decide +kernel
theorem dX3_begin_10 : decode cX3_begin 10 = .ok (.lconst 0, 1) := by decide +kernel
theorem dX3_begin_11 : decode cX3_begin 11 = .ok (.lcmp, 1) := by decide +kernel
theorem dX3_begin_12 : decode cX3_begin 12 = .ok (.ifCond .ge 9, 3) := by decide +kernel
theorem dX3_begin_15 : decode cX3_begin 15 = .ok (.ldc2_w 135, 3) := by decide +kernel
theorem dX3_begin_18 : decode cX3_begin 18 = .ok (.goto 10, 3) := by decide +kernel
theorem dX3_begin_21 : decode cX3_begin 21 = .ok (.aload_n 0, 1) := by decide +kernel
theorem dX3_begin_22 : decode cX3_begin 22 = .ok (.getfield 61, 3) := by decide +kernel
theorem dX3_begin_25 : decode cX3_begin 25 = .ok (.invokestatic 83, 3) := by decide +kernel
theorem dX3_begin_28 : decode cX3_begin 28 = .ok (.putfield 69, 3) := by decide +kernel
theorem dX3_begin_31 : decode cX3_begin 31 = .ok (.aload_n 0, 1) := by decide +kernel
theorem dX3_begin_32 : decode cX3_begin 32 = .ok (.invokevirtual 137, 3) := by decide +kernel
theorem dX3_begin_35 : decode cX3_begin 35 = .ok (.aload_n 0, 1) := by decide +kernel
theorem dX3_begin_36 : decode cX3_begin 36 = .ok (.invokevirtual 139, 3) := by decide +kernel
theorem dX3_begin_39 : decode cX3_begin 39 = .ok (.aload_n 0, 1) := by decide +kernel
theorem dX3_begin_40 : decode cX3_begin 40 = .ok (.lconst 1, 1) := by decide +kernel
theorem dX3_begin_41 : decode cX3_begin 41 = .ok (.aload_n 0, 1) := by decide +kernel
theorem dX3_begin_42 : decode cX3_begin 42 = .ok (.getfield 61, 3) := by decide +kernel
theorem dX3_begin_45 : decode cX3_begin 45 = .ok (.ldc2_w 72, 3) := by decide +kernel
theorem dX3_begin_48 : decode cX3_begin 48 = .ok (.lrem, 1) := by decide +kernel
theorem dX3_begin_49 : decode cX3_begin 49 = .ok (.lconst 0, 1) := by decide +kernel
theorem dX3_begin_50 : decode cX3_begin 50 = .ok (.lcmp, 1) := by decide +kernel
theorem dX3_begin_51 : decode cX3_begin 51 = .ok (.ifCond .ne 7, 3) := by decide +kernel
theorem dX3_begin_54 : decode cX3_begin 54 = .ok (.lconst 0, 1) := by decide +kernel
theorem dX3_begin_55 : decode cX3_begin 55 = .ok (.goto 4, 3) := by decide +kernel
theorem dX3_begin_58 : decode cX3_begin 58 = .ok (.lconst 1, 1) := by decide +kernel
theorem dX3_begin_59 : decode cX3_begin 59 = .ok (.invokevirtual 74, 3) := by decide +kernel
theorem dX3_begin_62 : decode cX3_begin 62 = .ok (.aload_n 0, 1) := by decide +kernel
theorem dX3_begin_63 : decode cX3_begin 63 = .ok (.aload_n 0, 1) := by decide +kernel
theorem dX3_begin_64 : decode cX3_begin 64 = .ok (.invokevirtual 108, 3) := by decide +kernel
theorem dX3_begin_67 : decode cX3_begin 67 = .ok (.putfield 115, 3) := by decide +kernel
theorem dX3_begin_70 : decode cX3_begin 70 = .ok (.iconst 0, 1) := by decide +kernel
theorem dX3_begin_71 : decode cX3_begin 71 = .ok (.istore_n 3, 1) := by decide +kernel
theorem dX3_begin_72 : decode cX3_begin 72 = .ok (.iload_n 3, 1) := by decide +kernel
theorem dX3_begin_73 : decode cX3_begin 73 = .ok (.aload_n 0, 1) := by decide +kernel
theorem dX3_begin_74 : decode cX3_begin 74 = .ok (.getfield 94, 3) := by decide +kernel
theorem dX3_begin_77 : decode cX3_begin 77 = .ok (.if_icmp .ge 16, 3) := by decide +kernel
theorem dX3_begin_80 : decode cX3_begin 80 = .ok (.aload_n 0, 1) := by decide +kernel
theorem dX3_begin_81 : decode cX3_begin 81 = .ok (.getfield 23, 3) := by decide +kernel
theorem dX3_begin_84 : decode cX3_begin 84 = .ok (.iload_n 3, 1) := by decide +kernel
theorem dX3_begin_85 : decode cX3_begin 85 = .ok (.iconst 0, 1) := by decide +kernel
theorem dX3_begin_86 : decode cX3_begin 86 = .ok (.iastore, 1) := by decide +kernel
theorem dX3_begin_87 : decode cX3_begin 87 = .ok (.iinc 3 1, 3) := by decide +kernel
theorem dX3_begin_90 : decode cX3_begin 90 = .ok (.goto (-18), 3) := by decide +kernel
theorem dX3_begin_93 : decode cX3_begin 93 = .ok (.iconst 0, 1) := by decide +kernel
theorem dX3_begin_94 : decode cX3_begin 94 = .ok (.istore_n 3, 1) := by decide +kernel
theorem dX3_begin_95 : decode cX3_begin 95 = .ok (.iload_n 3, 1) := by decide +kernel
theorem dX3_begin_96 : decode cX3_begin 96 = .ok (.aload_n 0, 1) := by decide +kernel
theorem dX3_begin_97 : decode cX3_begin 97 = .ok (.getfield 94, 3) := by decide +kernel
theorem dX3_begin_100 : decode cX3_begin 100 = .ok (.if_icmp .ge 23, 3) := by decide +kernel
theorem dX3_begin_103 : decode cX3_begin 103 = .ok (.aload_n 0, 1) := by decide +kernel
theorem dX3_begin_104 : decode cX3_begin 104 = .ok (.getfield 23, 3) := by decide +kernel
theorem dX3_begin_107 : decode cX3_begin 107 = .ok (.iload_n 3, 1) := by decide +kernel
theorem dX3_begin_108 : decode cX3_begin 108 = .ok (.iaload, 1) := by decide +kernel
theorem dX3_begin_109 : decode cX3_begin 109 = .ok (.ifCond .ne 8, 3) := by decide +kernel
theorem dX3_begin_112 : decode cX3_begin 112 = .ok (.aload_n 0, 1) := by decide +kernel
theorem dX3_begin_113 : decode cX3_begin 113 = .ok (.iload_n 3, 1) := by decide +kernel
theorem dX3_begin_114 : decode cX3_begin 114 = .ok (.invokevirtual 142, 3) := by decide +kernel
theorem dX3_begin_117 : decode cX3_begin 117 = .ok (.iinc 3 1, 3) := by decide +kernel
theorem dX3_begin_120 : decode cX3_begin 120 = .ok (.goto (-25), 3) := by decide +kernel
theorem dX3_begin_123 : decode cX3_begin 123 = .ok (.aload_n 0, 1) := by decide +kernel
theorem dX3_begin_124 : decode cX3_begin 124 = .ok (.invokevirtual 145, 3) := by decide +kernel
theorem dX3_begin_127 : decode cX3_begin 127 = .ok (.return_, 1) := by decide +kernel
abbrev cX3_isClass : ByteArray := prog_5_method_25_code
abbrev yX3_isClass : MethodName := ⟨"ClassGroupModel", "isClass", "(I)Z"⟩
abbrev wsX3_isClass : List Cond := .code ⟨"ClassGroupModel", "isClass", "(I)Z"⟩ prog_5_method_25_code 2 (some .boolean) :: wT
theorem dX3_isClass_0 : decode cX3_isClass 0 = .ok (.iload_n 1, 1) := by decide +kernel
theorem dX3_isClass_1 : decode cX3_isClass 1 = .ok (.i2l, 1) := by decide +kernel
theorem dX3_isClass_2 : decode cX3_isClass 2 = .ok (.lconst 0, 1) := by decide +kernel
theorem dX3_isClass_3 : decode cX3_isClass 3 = .ok (.aload_n 0, 1) := by decide +kernel
theorem dX3_isClass_4 : decode cX3_isClass 4 = .ok (.getfield 94, 3) := by decide +kernel
theorem dX3_isClass_7 : decode cX3_isClass 7 = .ok (.iconst 1, 1) := by decide +kernel
theorem dX3_isClass_8 : decode cX3_isClass 8 = .ok (.isub, 1) := by decide +kernel
theorem dX3_isClass_9 : decode cX3_isClass 9 = .ok (.i2l, 1) := by decide +kernel
theorem dX3_isClass_10 : decode cX3_isClass 10 = .ok (.invokestatic 152, 3) := by decide +kernel
theorem dX3_isClass_13 : decode cX3_isClass 13 = .ok (.ireturn, 1) := by decide +kernel
abbrev cX3_take : ByteArray := prog_5_method_23_code
abbrev yX3_take : MethodName := ⟨"ClassGroupModel", "take", "(I)I"⟩
abbrev wsX3_take : List Cond := .code ⟨"ClassGroupModel", "take", "(I)I"⟩ prog_5_method_23_code 4 (some .int) :: wT
theorem dX3_take_0 : decode cX3_take 0 = .ok (.iload_n 1, 1) := by decide +kernel
theorem dX3_take_1 : decode cX3_take 1 = .ok (.iconst 4, 1) := by decide +kernel
theorem dX3_take_2 : decode cX3_take 2 = .ok (.irem, 1) := by decide +kernel
theorem dX3_take_3 : decode cX3_take 3 = .ok (.ifCond .ge 11, 3) := by decide +kernel
theorem dX3_take_6 : decode cX3_take 6 = .ok (.iload_n 1, 1) := by decide +kernel
theorem dX3_take_7 : decode cX3_take 7 = .ok (.iconst 4, 1) := by decide +kernel
theorem dX3_take_8 : decode cX3_take 8 = .ok (.irem, 1) := by decide +kernel
theorem dX3_take_9 : decode cX3_take 9 = .ok (.iconst 4, 1) := by decide +kernel
theorem dX3_take_10 : decode cX3_take 10 = .ok (.iadd, 1) := by decide +kernel
theorem dX3_take_11 : decode cX3_take 11 = .ok (.goto 6, 3) := by decide +kernel
theorem dX3_take_14 : decode cX3_take 14 = .ok (.iload_n 1, 1) := by decide +kernel
theorem dX3_take_15 : decode cX3_take 15 = .ok (.iconst 4, 1) := by decide +kernel
theorem dX3_take_16 : decode cX3_take 16 = .ok (.irem, 1) := by decide +kernel
theorem dX3_take_17 : decode cX3_take 17 = .ok (.istore_n 2, 1) := by decide +kernel
theorem dX3_take_18 : decode cX3_take 18 = .ok (.iload_n 1, 1) := by decide +kernel
theorem dX3_take_19 : decode cX3_take 19 = .ok (.i2l, 1) := by decide +kernel
theorem dX3_take_20 : decode cX3_take 20 = .ok (.ldc2_w 148, 3) := by decide +kernel
theorem dX3_take_23 : decode cX3_take 23 = .ok (.ldc2_w 150, 3) := by decide +kernel
theorem dX3_take_26 : decode cX3_take 26 = .ok (.invokestatic 152, 3) := by decide +kernel
theorem dX3_take_29 : decode cX3_take 29 = .ok (.ifCond .eq 33, 3) := by decide +kernel
theorem dX3_take_32 : decode cX3_take 32 = .ok (.iload_n 2, 1) := by decide +kernel
theorem dX3_take_33 : decode cX3_take 33 = .ok (.iconst 2, 1) := by decide +kernel
theorem dX3_take_34 : decode cX3_take 34 = .ok (.if_icmp .ge 28, 3) := by decide +kernel
theorem dX3_take_37 : decode cX3_take 37 = .ok (.iload_n 1, 1) := by decide +kernel
theorem dX3_take_38 : decode cX3_take 38 = .ok (.ifCond .lt 20, 3) := by decide +kernel
theorem dX3_take_41 : decode cX3_take 41 = .ok (.iload_n 1, 1) := by decide +kernel
theorem dX3_take_42 : decode cX3_take 42 = .ok (.i2l, 1) := by decide +kernel
theorem dX3_take_43 : decode cX3_take 43 = .ok (.invokestatic 83, 3) := by decide +kernel
theorem dX3_take_46 : decode cX3_take 46 = .ok (.iload_n 1, 1) := by decide +kernel
theorem dX3_take_47 : decode cX3_take 47 = .ok (.i2l, 1) := by decide +kernel
theorem dX3_take_48 : decode cX3_take 48 = .ok (.invokestatic 83, 3) := by decide +kernel
theorem dX3_take_51 : decode cX3_take 51 = .ok (.lmul, 1) := by decide +kernel
theorem dX3_take_52 : decode cX3_take 52 = .ok (.iload_n 1, 1) := by decide +kernel
theorem dX3_take_53 : decode cX3_take 53 = .ok (.i2l, 1) := by decide +kernel
theorem dX3_take_54 : decode cX3_take 54 = .ok (.lcmp, 1) := by decide +kernel
theorem dX3_take_55 : decode cX3_take 55 = .ok (.ifCond .eq 7, 3) := by decide +kernel
theorem dX3_take_58 : decode cX3_take 58 = .ok (.iconst 1, 1) := by decide +kernel
theorem dX3_take_59 : decode cX3_take 59 = .ok (.goto 4, 3) := by decide +kernel
theorem dX3_take_62 : decode cX3_take 62 = .ok (.iconst 0, 1) := by decide +kernel
theorem dX3_take_63 : decode cX3_take 63 = .ok (.istore_n 3, 1) := by decide +kernel
theorem dX3_take_64 : decode cX3_take 64 = .ok (.aload_n 0, 1) := by decide +kernel
theorem dX3_take_65 : decode cX3_take 65 = .ok (.iload_n 3, 1) := by decide +kernel
theorem dX3_take_66 : decode cX3_take 66 = .ok (.ifCond .eq 7, 3) := by decide +kernel
theorem dX3_take_69 : decode cX3_take 69 = .ok (.iconst 0, 1) := by decide +kernel
theorem dX3_take_70 : decode cX3_take 70 = .ok (.goto 4, 3) := by decide +kernel
theorem dX3_take_73 : decode cX3_take 73 = .ok (.iconst 1, 1) := by decide +kernel
theorem dX3_take_74 : decode cX3_take 74 = .ok (.putfield 46, 3) := by decide +kernel
theorem dX3_take_77 : decode cX3_take 77 = .ok (.iload_n 3, 1) := by decide +kernel
theorem dX3_take_78 : decode cX3_take 78 = .ok (.ifCond .ne 5, 3) := by decide +kernel
theorem dX3_take_81 : decode cX3_take 81 = .ok (.iconst 0, 1) := by decide +kernel
theorem dX3_take_82 : decode cX3_take 82 = .ok (.ireturn, 1) := by decide +kernel
theorem dX3_take_83 : decode cX3_take 83 = .ok (.aload_n 0, 1) := by decide +kernel
theorem dX3_take_84 : decode cX3_take 84 = .ok (.iload_n 1, 1) := by decide +kernel
theorem dX3_take_85 : decode cX3_take 85 = .ok (.i2l, 1) := by decide +kernel
theorem dX3_take_86 : decode cX3_take 86 = .ok (.invokevirtual 42, 3) := by decide +kernel
theorem dX3_take_89 : decode cX3_take 89 = .ok (.aload_n 0, 1) := by decide +kernel
theorem dX3_take_90 : decode cX3_take 90 = .ok (.getfield 94, 3) := by decide +kernel
theorem dX3_take_93 : decode cX3_take 93 = .ok (.ireturn, 1) := by decide +kernel
abbrev cX3_count : ByteArray := prog_5_method_24_code
abbrev yX3_count : MethodName := ⟨"ClassGroupModel", "count", "(I)I"⟩
abbrev wsX3_count : List Cond := .code ⟨"ClassGroupModel", "count", "(I)I"⟩ prog_5_method_24_code 2 (some .int) :: wT
theorem dX3_count_0 : decode cX3_count 0 = .ok (.aload_n 0, 1) := by decide +kernel
theorem dX3_count_1 : decode cX3_count 1 = .ok (.iconst 0, 1) := by decide +kernel
theorem dX3_count_2 : decode cX3_count 2 = .ok (.putfield 46, 3) := by decide +kernel
theorem dX3_count_5 : decode cX3_count 5 = .ok (.iload_n 1, 1) := by decide +kernel
theorem dX3_count_6 : decode cX3_count 6 = .ok (.tableswitch 87 0 5 #[38, 44, 49, 54, 59, 82], 38) := by decide +kernel
theorem dX3_count_44 : decode cX3_count 44 = .ok (.aload_n 0, 1) := by decide +kernel
theorem dX3_count_45 : decode cX3_count 45 = .ok (.getfield 61, 3) := by decide +kernel
theorem dX3_count_48 : decode cX3_count 48 = .ok (.l2i, 1) := by decide +kernel
theorem dX3_count_49 : decode cX3_count 49 = .ok (.ireturn, 1) := by decide +kernel
theorem dX3_count_50 : decode cX3_count 50 = .ok (.aload_n 0, 1) := by decide +kernel
theorem dX3_count_51 : decode cX3_count 51 = .ok (.getfield 94, 3) := by decide +kernel
theorem dX3_count_54 : decode cX3_count 54 = .ok (.ireturn, 1) := by decide +kernel
theorem dX3_count_55 : decode cX3_count 55 = .ok (.aload_n 0, 1) := by decide +kernel
theorem dX3_count_56 : decode cX3_count 56 = .ok (.getfield 125, 3) := by decide +kernel
theorem dX3_count_59 : decode cX3_count 59 = .ok (.ireturn, 1) := by decide +kernel
theorem dX3_count_60 : decode cX3_count 60 = .ok (.aload_n 0, 1) := by decide +kernel
theorem dX3_count_61 : decode cX3_count 61 = .ok (.getfield 115, 3) := by decide +kernel
theorem dX3_count_64 : decode cX3_count 64 = .ok (.ireturn, 1) := by decide +kernel
theorem dX3_count_65 : decode cX3_count 65 = .ok (.aload_n 0, 1) := by decide +kernel
theorem dX3_count_66 : decode cX3_count 66 = .ok (.getfield 125, 3) := by decide +kernel
theorem dX3_count_69 : decode cX3_count 69 = .ok (.ifCond .ne 7, 3) := by decide +kernel
theorem dX3_count_72 : decode cX3_count 72 = .ok (.iconst 1, 1) := by decide +kernel
theorem dX3_count_73 : decode cX3_count 73 = .ok (.goto 14, 3) := by decide +kernel
theorem dX3_count_76 : decode cX3_count 76 = .ok (.aload_n 0, 1) := by decide +kernel
theorem dX3_count_77 : decode cX3_count 77 = .ok (.getfield 23, 3) := by decide +kernel
theorem dX3_count_80 : decode cX3_count 80 = .ok (.aload_n 0, 1) := by decide +kernel
theorem dX3_count_81 : decode cX3_count 81 = .ok (.getfield 34, 3) := by decide +kernel
theorem dX3_count_84 : decode cX3_count 84 = .ok (.iconst 0, 1) := by decide +kernel
theorem dX3_count_85 : decode cX3_count 85 = .ok (.iaload, 1) := by decide +kernel
theorem dX3_count_86 : decode cX3_count 86 = .ok (.iaload, 1) := by decide +kernel
theorem dX3_count_87 : decode cX3_count 87 = .ok (.ireturn, 1) := by decide +kernel
theorem dX3_count_88 : decode cX3_count 88 = .ok (.aload_n 0, 1) := by decide +kernel
theorem dX3_count_89 : decode cX3_count 89 = .ok (.getfield 78, 3) := by decide +kernel
theorem dX3_count_92 : decode cX3_count 92 = .ok (.ireturn, 1) := by decide +kernel
theorem dX3_count_93 : decode cX3_count 93 = .ok (.iconst (-1), 1) := by decide +kernel
theorem dX3_count_94 : decode cX3_count 94 = .ok (.ireturn, 1) := by decide +kernel
abbrev cX3_name : ByteArray := prog_5_method_26_code
abbrev yX3_name : MethodName := ⟨"ClassGroupModel", "name", "(II)I"⟩
abbrev wsX3_name : List Cond := .code ⟨"ClassGroupModel", "name", "(II)I"⟩ prog_5_method_26_code 3 (some .int) :: wT
theorem dX3_name_0 : decode cX3_name 0 = .ok (.aload_n 0, 1) := by decide +kernel
theorem dX3_name_1 : decode cX3_name 1 = .ok (.aload_n 0, 1) := by decide +kernel
theorem dX3_name_2 : decode cX3_name 2 = .ok (.iload_n 1, 1) := by decide +kernel
theorem dX3_name_3 : decode cX3_name 3 = .ok (.invokevirtual 156, 3) := by decide +kernel
theorem dX3_name_6 : decode cX3_name 6 = .ok (.ifCond .eq 19, 3) := by decide +kernel
theorem dX3_name_9 : decode cX3_name 9 = .ok (.iload_n 2, 1) := by decide +kernel
theorem dX3_name_10 : decode cX3_name 10 = .ok (.i2l, 1) := by decide +kernel
theorem dX3_name_11 : decode cX3_name 11 = .ok (.lconst 0, 1) := by decide +kernel
theorem dX3_name_12 : decode cX3_name 12 = .ok (.ldc2_w 72, 3) := by decide +kernel
theorem dX3_name_15 : decode cX3_name 15 = .ok (.invokestatic 152, 3) := by decide +kernel
theorem dX3_name_18 : decode cX3_name 18 = .ok (.ifCond .eq 7, 3) := by decide +kernel
theorem dX3_name_21 : decode cX3_name 21 = .ok (.iconst 0, 1) := by decide +kernel
theorem dX3_name_22 : decode cX3_name 22 = .ok (.goto 4, 3) := by decide +kernel
theorem dX3_name_25 : decode cX3_name 25 = .ok (.iconst 1, 1) := by decide +kernel
theorem dX3_name_26 : decode cX3_name 26 = .ok (.putfield 46, 3) := by decide +kernel
theorem dX3_name_29 : decode cX3_name 29 = .ok (.aload_n 0, 1) := by decide +kernel
theorem dX3_name_30 : decode cX3_name 30 = .ok (.getfield 46, 3) := by decide +kernel
theorem dX3_name_33 : decode cX3_name 33 = .ok (.ifCond .le 5, 3) := by decide +kernel
theorem dX3_name_36 : decode cX3_name 36 = .ok (.iconst 0, 1) := by decide +kernel
theorem dX3_name_37 : decode cX3_name 37 = .ok (.ireturn, 1) := by decide +kernel
theorem dX3_name_38 : decode cX3_name 38 = .ok (.aload_n 0, 1) := by decide +kernel
theorem dX3_name_39 : decode cX3_name 39 = .ok (.iload_n 1, 1) := by decide +kernel
theorem dX3_name_40 : decode cX3_name 40 = .ok (.invokevirtual 104, 3) := by decide +kernel
theorem dX3_name_43 : decode cX3_name 43 = .ok (.iload_n 2, 1) := by decide +kernel
theorem dX3_name_44 : decode cX3_name 44 = .ok (.ifCond .ne 10, 3) := by decide +kernel
theorem dX3_name_47 : decode cX3_name 47 = .ok (.aload_n 0, 1) := by decide +kernel
theorem dX3_name_48 : decode cX3_name 48 = .ok (.getfield 54, 3) := by decide +kernel
theorem dX3_name_51 : decode cX3_name 51 = .ok (.goto 19, 3) := by decide +kernel
theorem dX3_name_54 : decode cX3_name 54 = .ok (.iload_n 2, 1) := by decide +kernel
theorem dX3_name_55 : decode cX3_name 55 = .ok (.iconst 1, 1) := by decide +kernel
theorem dX3_name_56 : decode cX3_name 56 = .ok (.if_icmp .ne 10, 3) := by decide +kernel
theorem dX3_name_59 : decode cX3_name 59 = .ok (.aload_n 0, 1) := by decide +kernel
theorem dX3_name_60 : decode cX3_name 60 = .ok (.getfield 58, 3) := by decide +kernel
theorem dX3_name_63 : decode cX3_name 63 = .ok (.goto 7, 3) := by decide +kernel
theorem dX3_name_66 : decode cX3_name 66 = .ok (.aload_n 0, 1) := by decide +kernel
theorem dX3_name_67 : decode cX3_name 67 = .ok (.getfield 66, 3) := by decide +kernel
theorem dX3_name_70 : decode cX3_name 70 = .ok (.l2i, 1) := by decide +kernel
theorem dX3_name_71 : decode cX3_name 71 = .ok (.ireturn, 1) := by decide +kernel
abbrev cX3_classOf : ByteArray := prog_5_method_27_code
abbrev yX3_classOf : MethodName := ⟨"ClassGroupModel", "classOf", "(III)I"⟩
abbrev wsX3_classOf : List Cond := .code ⟨"ClassGroupModel", "classOf", "(III)I"⟩ prog_5_method_27_code 5 (some .int) :: wT
theorem dX3_classOf_0 : decode cX3_classOf 0 = .ok (.iload_n 1, 1) := by decide +kernel
theorem dX3_classOf_1 : decode cX3_classOf 1 = .ok (.i2l, 1) := by decide +kernel
theorem dX3_classOf_2 : decode cX3_classOf 2 = .ok (.ldc2_w 159, 3) := by decide +kernel
theorem dX3_classOf_5 : decode cX3_classOf 5 = .ok (.ldc2_w 161, 3) := by decide +kernel
theorem dX3_classOf_8 : decode cX3_classOf 8 = .ok (.invokestatic 152, 3) := by decide +kernel
theorem dX3_classOf_11 : decode cX3_classOf 11 = .ok (.ifCond .eq 58, 3) := by decide +kernel
theorem dX3_classOf_14 : decode cX3_classOf 14 = .ok (.iload_n 2, 1) := by decide +kernel
theorem dX3_classOf_15 : decode cX3_classOf 15 = .ok (.i2l, 1) := by decide +kernel
theorem dX3_classOf_16 : decode cX3_classOf 16 = .ok (.ldc2_w 159, 3) := by decide +kernel
theorem dX3_classOf_19 : decode cX3_classOf 19 = .ok (.ldc2_w 161, 3) := by decide +kernel
theorem dX3_classOf_22 : decode cX3_classOf 22 = .ok (.invokestatic 152, 3) := by decide +kernel
theorem dX3_classOf_25 : decode cX3_classOf 25 = .ok (.ifCond .eq 44, 3) := by decide +kernel
theorem dX3_classOf_28 : decode cX3_classOf 28 = .ok (.iload_n 3, 1) := by decide +kernel
theorem dX3_classOf_29 : decode cX3_classOf 29 = .ok (.i2l, 1) := by decide +kernel
theorem dX3_classOf_30 : decode cX3_classOf 30 = .ok (.ldc2_w 159, 3) := by decide +kernel
theorem dX3_classOf_33 : decode cX3_classOf 33 = .ok (.ldc2_w 161, 3) := by decide +kernel
theorem dX3_classOf_36 : decode cX3_classOf 36 = .ok (.invokestatic 152, 3) := by decide +kernel
theorem dX3_classOf_39 : decode cX3_classOf 39 = .ok (.ifCond .eq 30, 3) := by decide +kernel
theorem dX3_classOf_42 : decode cX3_classOf 42 = .ok (.iload_n 2, 1) := by decide +kernel
theorem dX3_classOf_43 : decode cX3_classOf 43 = .ok (.i2l, 1) := by decide +kernel
theorem dX3_classOf_44 : decode cX3_classOf 44 = .ok (.iload_n 2, 1) := by decide +kernel
theorem dX3_classOf_45 : decode cX3_classOf 45 = .ok (.i2l, 1) := by decide +kernel
theorem dX3_classOf_46 : decode cX3_classOf 46 = .ok (.lmul, 1) := by decide +kernel
theorem dX3_classOf_47 : decode cX3_classOf 47 = .ok (.ldc2_w 64, 3) := by decide +kernel
theorem dX3_classOf_50 : decode cX3_classOf 50 = .ok (.iload_n 1, 1) := by decide +kernel
theorem dX3_classOf_51 : decode cX3_classOf 51 = .ok (.i2l, 1) := by decide +kernel
theorem dX3_classOf_52 : decode cX3_classOf 52 = .ok (.lmul, 1) := by decide +kernel
theorem dX3_classOf_53 : decode cX3_classOf 53 = .ok (.iload_n 3, 1) := by decide +kernel
theorem dX3_classOf_54 : decode cX3_classOf 54 = .ok (.i2l, 1) := by decide +kernel
theorem dX3_classOf_55 : decode cX3_classOf 55 = .ok (.lmul, 1) := by decide +kernel
theorem dX3_classOf_56 : decode cX3_classOf 56 = .ok (.lsub, 1) := by decide +kernel
theorem dX3_classOf_57 : decode cX3_classOf 57 = .ok (.aload_n 0, 1) := by decide +kernel
theorem dX3_classOf_58 : decode cX3_classOf 58 = .ok (.getfield 61, 3) := by decide +kernel
theorem dX3_classOf_61 : decode cX3_classOf 61 = .ok (.lcmp, 1) := by decide +kernel
theorem dX3_classOf_62 : decode cX3_classOf 62 = .ok (.ifCond .ne 7, 3) := by decide +kernel
theorem dX3_classOf_65 : decode cX3_classOf 65 = .ok (.iconst 1, 1) := by decide +kernel
theorem dX3_classOf_66 : decode cX3_classOf 66 = .ok (.goto 4, 3) := by decide +kernel
theorem dX3_classOf_69 : decode cX3_classOf 69 = .ok (.iconst 0, 1) := by decide +kernel
theorem dX3_classOf_70 : decode cX3_classOf 70 = .ok (.istore 4, 2) := by decide +kernel
theorem dX3_classOf_72 : decode cX3_classOf 72 = .ok (.iload 4, 2) := by decide +kernel
theorem dX3_classOf_74 : decode cX3_classOf 74 = .ok (.ifCond .eq 37, 3) := by decide +kernel
theorem dX3_classOf_77 : decode cX3_classOf 77 = .ok (.aload_n 0, 1) := by decide +kernel
theorem dX3_classOf_78 : decode cX3_classOf 78 = .ok (.getfield 61, 3) := by decide +kernel
theorem dX3_classOf_81 : decode cX3_classOf 81 = .ok (.lconst 0, 1) := by decide +kernel
theorem dX3_classOf_82 : decode cX3_classOf 82 = .ok (.lcmp, 1) := by decide +kernel
theorem dX3_classOf_83 : decode cX3_classOf 83 = .ok (.ifCond .gt 7, 3) := by decide +kernel
theorem dX3_classOf_86 : decode cX3_classOf 86 = .ok (.iload_n 1, 1) := by decide +kernel
theorem dX3_classOf_87 : decode cX3_classOf 87 = .ok (.ifCond .le 24, 3) := by decide +kernel
theorem dX3_classOf_90 : decode cX3_classOf 90 = .ok (.iload_n 1, 1) := by decide +kernel
theorem dX3_classOf_91 : decode cX3_classOf 91 = .ok (.i2l, 1) := by decide +kernel
theorem dX3_classOf_92 : decode cX3_classOf 92 = .ok (.iload_n 2, 1) := by decide +kernel
theorem dX3_classOf_93 : decode cX3_classOf 93 = .ok (.i2l, 1) := by decide +kernel
theorem dX3_classOf_94 : decode cX3_classOf 94 = .ok (.invokestatic 90, 3) := by decide +kernel
theorem dX3_classOf_97 : decode cX3_classOf 97 = .ok (.iload_n 3, 1) := by decide +kernel
theorem dX3_classOf_98 : decode cX3_classOf 98 = .ok (.i2l, 1) := by decide +kernel
theorem dX3_classOf_99 : decode cX3_classOf 99 = .ok (.invokestatic 90, 3) := by decide +kernel
theorem dX3_classOf_102 : decode cX3_classOf 102 = .ok (.lconst 1, 1) := by decide +kernel
theorem dX3_classOf_103 : decode cX3_classOf 103 = .ok (.lcmp, 1) := by decide +kernel
theorem dX3_classOf_104 : decode cX3_classOf 104 = .ok (.ifCond .ne 7, 3) := by decide +kernel
theorem dX3_classOf_107 : decode cX3_classOf 107 = .ok (.iconst 1, 1) := by decide +kernel
theorem dX3_classOf_108 : decode cX3_classOf 108 = .ok (.goto 4, 3) := by decide +kernel
theorem dX3_classOf_111 : decode cX3_classOf 111 = .ok (.iconst 0, 1) := by decide +kernel
theorem dX3_classOf_112 : decode cX3_classOf 112 = .ok (.istore 4, 2) := by decide +kernel
theorem dX3_classOf_114 : decode cX3_classOf 114 = .ok (.aload_n 0, 1) := by decide +kernel
theorem dX3_classOf_115 : decode cX3_classOf 115 = .ok (.iload 4, 2) := by decide +kernel
theorem dX3_classOf_117 : decode cX3_classOf 117 = .ok (.ifCond .eq 7, 3) := by decide +kernel
theorem dX3_classOf_120 : decode cX3_classOf 120 = .ok (.iconst 0, 1) := by decide +kernel
theorem dX3_classOf_121 : decode cX3_classOf 121 = .ok (.goto 4, 3) := by decide +kernel
theorem dX3_classOf_124 : decode cX3_classOf 124 = .ok (.iconst 1, 1) := by decide +kernel
theorem dX3_classOf_125 : decode cX3_classOf 125 = .ok (.putfield 46, 3) := by decide +kernel
theorem dX3_classOf_128 : decode cX3_classOf 128 = .ok (.iload 4, 2) := by decide +kernel
theorem dX3_classOf_130 : decode cX3_classOf 130 = .ok (.ifCond .ne 5, 3) := by decide +kernel
theorem dX3_classOf_133 : decode cX3_classOf 133 = .ok (.iconst 0, 1) := by decide +kernel
theorem dX3_classOf_134 : decode cX3_classOf 134 = .ok (.ireturn, 1) := by decide +kernel
theorem dX3_classOf_135 : decode cX3_classOf 135 = .ok (.aload_n 0, 1) := by decide +kernel
theorem dX3_classOf_136 : decode cX3_classOf 136 = .ok (.iload_n 1, 1) := by decide +kernel
theorem dX3_classOf_137 : decode cX3_classOf 137 = .ok (.i2l, 1) := by decide +kernel
theorem dX3_classOf_138 : decode cX3_classOf 138 = .ok (.putfield 54, 3) := by decide +kernel
theorem dX3_classOf_141 : decode cX3_classOf 141 = .ok (.aload_n 0, 1) := by decide +kernel
theorem dX3_classOf_142 : decode cX3_classOf 142 = .ok (.iload_n 2, 1) := by decide +kernel
theorem dX3_classOf_143 : decode cX3_classOf 143 = .ok (.i2l, 1) := by decide +kernel
theorem dX3_classOf_144 : decode cX3_classOf 144 = .ok (.putfield 58, 3) := by decide +kernel
theorem dX3_classOf_147 : decode cX3_classOf 147 = .ok (.aload_n 0, 1) := by decide +kernel
theorem dX3_classOf_148 : decode cX3_classOf 148 = .ok (.iload_n 3, 1) := by decide +kernel
theorem dX3_classOf_149 : decode cX3_classOf 149 = .ok (.i2l, 1) := by decide +kernel
theorem dX3_classOf_150 : decode cX3_classOf 150 = .ok (.putfield 66, 3) := by decide +kernel
theorem dX3_classOf_153 : decode cX3_classOf 153 = .ok (.aload_n 0, 1) := by decide +kernel
theorem dX3_classOf_154 : decode cX3_classOf 154 = .ok (.invokevirtual 108, 3) := by decide +kernel
theorem dX3_classOf_157 : decode cX3_classOf 157 = .ok (.ireturn, 1) := by decide +kernel
abbrev cX3_product : ByteArray := prog_5_method_28_code
abbrev yX3_product : MethodName := ⟨"ClassGroupModel", "product", "(II)I"⟩
abbrev wsX3_product : List Cond := .code ⟨"ClassGroupModel", "product", "(II)I"⟩ prog_5_method_28_code 3 (some .int) :: wT
theorem dX3_product_0 : decode cX3_product 0 = .ok (.aload_n 0, 1) := by decide +kernel
theorem dX3_product_1 : decode cX3_product 1 = .ok (.aload_n 0, 1) := by decide +kernel
theorem dX3_product_2 : decode cX3_product 2 = .ok (.iload_n 1, 1) := by decide +kernel
theorem dX3_product_3 : decode cX3_product 3 = .ok (.invokevirtual 156, 3) := by decide +kernel
theorem dX3_product_6 : decode cX3_product 6 = .ok (.ifCond .eq 15, 3) := by decide +kernel
theorem dX3_product_9 : decode cX3_product 9 = .ok (.aload_n 0, 1) := by decide +kernel
theorem dX3_product_10 : decode cX3_product 10 = .ok (.iload_n 2, 1) := by decide +kernel
theorem dX3_product_11 : decode cX3_product 11 = .ok (.invokevirtual 156, 3) := by decide +kernel
theorem dX3_product_14 : decode cX3_product 14 = .ok (.ifCond .eq 7, 3) := by decide +kernel
theorem dX3_product_17 : decode cX3_product 17 = .ok (.iconst 0, 1) := by decide +kernel
theorem dX3_product_18 : decode cX3_product 18 = .ok (.goto 4, 3) := by decide +kernel
theorem dX3_product_21 : decode cX3_product 21 = .ok (.iconst 1, 1) := by decide +kernel
theorem dX3_product_22 : decode cX3_product 22 = .ok (.putfield 46, 3) := by decide +kernel
theorem dX3_product_25 : decode cX3_product 25 = .ok (.aload_n 0, 1) := by decide +kernel
theorem dX3_product_26 : decode cX3_product 26 = .ok (.getfield 46, 3) := by decide +kernel
theorem dX3_product_29 : decode cX3_product 29 = .ok (.ifCond .le 7, 3) := by decide +kernel
theorem dX3_product_32 : decode cX3_product 32 = .ok (.iconst 0, 1) := by decide +kernel
theorem dX3_product_33 : decode cX3_product 33 = .ok (.goto 9, 3) := by decide +kernel
theorem dX3_product_36 : decode cX3_product 36 = .ok (.aload_n 0, 1) := by decide +kernel
theorem dX3_product_37 : decode cX3_product 37 = .ok (.iload_n 1, 1) := by decide +kernel
theorem dX3_product_38 : decode cX3_product 38 = .ok (.iload_n 2, 1) := by decide +kernel
theorem dX3_product_39 : decode cX3_product 39 = .ok (.invokevirtual 118, 3) := by decide +kernel
theorem dX3_product_42 : decode cX3_product 42 = .ok (.ireturn, 1) := by decide +kernel
abbrev cX3_inverse : ByteArray := prog_5_method_29_code
abbrev yX3_inverse : MethodName := ⟨"ClassGroupModel", "inverse", "(I)I"⟩
abbrev wsX3_inverse : List Cond := .code ⟨"ClassGroupModel", "inverse", "(I)I"⟩ prog_5_method_29_code 2 (some .int) :: wT
theorem dX3_inverse_0 : decode cX3_inverse 0 = .ok (.aload_n 0, 1) := by decide +kernel
theorem dX3_inverse_1 : decode cX3_inverse 1 = .ok (.aload_n 0, 1) := by decide +kernel
theorem dX3_inverse_2 : decode cX3_inverse 2 = .ok (.iload_n 1, 1) := by decide +kernel
theorem dX3_inverse_3 : decode cX3_inverse 3 = .ok (.invokevirtual 156, 3) := by decide +kernel
theorem dX3_inverse_6 : decode cX3_inverse 6 = .ok (.ifCond .eq 7, 3) := by decide +kernel
theorem dX3_inverse_9 : decode cX3_inverse 9 = .ok (.iconst 0, 1) := by decide +kernel
theorem dX3_inverse_10 : decode cX3_inverse 10 = .ok (.goto 4, 3) := by decide +kernel
theorem dX3_inverse_13 : decode cX3_inverse 13 = .ok (.iconst 1, 1) := by decide +kernel
theorem dX3_inverse_14 : decode cX3_inverse 14 = .ok (.putfield 46, 3) := by decide +kernel
theorem dX3_inverse_17 : decode cX3_inverse 17 = .ok (.aload_n 0, 1) := by decide +kernel
theorem dX3_inverse_18 : decode cX3_inverse 18 = .ok (.getfield 46, 3) := by decide +kernel
theorem dX3_inverse_21 : decode cX3_inverse 21 = .ok (.ifCond .le 7, 3) := by decide +kernel
theorem dX3_inverse_24 : decode cX3_inverse 24 = .ok (.iconst 0, 1) := by decide +kernel
theorem dX3_inverse_25 : decode cX3_inverse 25 = .ok (.goto 8, 3) := by decide +kernel
theorem dX3_inverse_28 : decode cX3_inverse 28 = .ok (.aload_n 0, 1) := by decide +kernel
theorem dX3_inverse_29 : decode cX3_inverse 29 = .ok (.iload_n 1, 1) := by decide +kernel
theorem dX3_inverse_30 : decode cX3_inverse 30 = .ok (.invokevirtual 111, 3) := by decide +kernel
theorem dX3_inverse_33 : decode cX3_inverse 33 = .ok (.ireturn, 1) := by decide +kernel
abbrev cX3_power : ByteArray := prog_5_method_30_code
abbrev yX3_power : MethodName := ⟨"ClassGroupModel", "power", "(II)I"⟩
abbrev wsX3_power : List Cond := .code ⟨"ClassGroupModel", "power", "(II)I"⟩ prog_5_method_30_code 3 (some .int) :: wT
theorem dX3_power_0 : decode cX3_power 0 = .ok (.aload_n 0, 1) := by decide +kernel
theorem dX3_power_1 : decode cX3_power 1 = .ok (.aload_n 0, 1) := by decide +kernel
theorem dX3_power_2 : decode cX3_power 2 = .ok (.iload_n 1, 1) := by decide +kernel
theorem dX3_power_3 : decode cX3_power 3 = .ok (.invokevirtual 156, 3) := by decide +kernel
theorem dX3_power_6 : decode cX3_power 6 = .ok (.ifCond .eq 7, 3) := by decide +kernel
theorem dX3_power_9 : decode cX3_power 9 = .ok (.iconst 0, 1) := by decide +kernel
theorem dX3_power_10 : decode cX3_power 10 = .ok (.goto 4, 3) := by decide +kernel
theorem dX3_power_13 : decode cX3_power 13 = .ok (.iconst 1, 1) := by decide +kernel
theorem dX3_power_14 : decode cX3_power 14 = .ok (.putfield 46, 3) := by decide +kernel
theorem dX3_power_17 : decode cX3_power 17 = .ok (.aload_n 0, 1) := by decide +kernel
theorem dX3_power_18 : decode cX3_power 18 = .ok (.getfield 46, 3) := by decide +kernel
theorem dX3_power_21 : decode cX3_power 21 = .ok (.ifCond .le 7, 3) := by decide +kernel
theorem dX3_power_24 : decode cX3_power 24 = .ok (.iconst 0, 1) := by decide +kernel
theorem dX3_power_25 : decode cX3_power 25 = .ok (.goto 9, 3) := by decide +kernel
theorem dX3_power_28 : decode cX3_power 28 = .ok (.aload_n 0, 1) := by decide +kernel
theorem dX3_power_29 : decode cX3_power 29 = .ok (.iload_n 1, 1) := by decide +kernel
theorem dX3_power_30 : decode cX3_power 30 = .ok (.iload_n 2, 1) := by decide +kernel
theorem dX3_power_31 : decode cX3_power 31 = .ok (.invokevirtual 163, 3) := by decide +kernel
theorem dX3_power_34 : decode cX3_power 34 = .ok (.ireturn, 1) := by decide +kernel
abbrev cX3_order : ByteArray := prog_5_method_31_code
abbrev yX3_order : MethodName := ⟨"ClassGroupModel", "order", "(I)I"⟩
abbrev wsX3_order : List Cond := .code ⟨"ClassGroupModel", "order", "(I)I"⟩ prog_5_method_31_code 2 (some .int) :: wT
theorem dX3_order_0 : decode cX3_order 0 = .ok (.aload_n 0, 1) := by decide +kernel
theorem dX3_order_1 : decode cX3_order 1 = .ok (.aload_n 0, 1) := by decide +kernel
theorem dX3_order_2 : decode cX3_order 2 = .ok (.iload_n 1, 1) := by decide +kernel
theorem dX3_order_3 : decode cX3_order 3 = .ok (.invokevirtual 156, 3) := by decide +kernel
theorem dX3_order_6 : decode cX3_order 6 = .ok (.ifCond .eq 7, 3) := by decide +kernel
theorem dX3_order_9 : decode cX3_order 9 = .ok (.iconst 0, 1) := by decide +kernel
theorem dX3_order_10 : decode cX3_order 10 = .ok (.goto 4, 3) := by decide +kernel
theorem dX3_order_13 : decode cX3_order 13 = .ok (.iconst 1, 1) := by decide +kernel
theorem dX3_order_14 : decode cX3_order 14 = .ok (.putfield 46, 3) := by decide +kernel
theorem dX3_order_17 : decode cX3_order 17 = .ok (.aload_n 0, 1) := by decide +kernel
theorem dX3_order_18 : decode cX3_order 18 = .ok (.getfield 46, 3) := by decide +kernel
theorem dX3_order_21 : decode cX3_order 21 = .ok (.ifCond .le 7, 3) := by decide +kernel
theorem dX3_order_24 : decode cX3_order 24 = .ok (.iconst 0, 1) := by decide +kernel
theorem dX3_order_25 : decode cX3_order 25 = .ok (.goto 9, 3) := by decide +kernel
theorem dX3_order_28 : decode cX3_order 28 = .ok (.aload_n 0, 1) := by decide +kernel
theorem dX3_order_29 : decode cX3_order 29 = .ok (.getfield 23, 3) := by decide +kernel
theorem dX3_order_32 : decode cX3_order 32 = .ok (.iload_n 1, 1) := by decide +kernel
theorem dX3_order_33 : decode cX3_order 33 = .ok (.iaload, 1) := by decide +kernel
theorem dX3_order_34 : decode cX3_order 34 = .ok (.ireturn, 1) := by decide +kernel
abbrev cX3_generator : ByteArray := prog_5_method_32_code
abbrev yX3_generator : MethodName := ⟨"ClassGroupModel", "generator", "(I)I"⟩
abbrev wsX3_generator : List Cond := .code ⟨"ClassGroupModel", "generator", "(I)I"⟩ prog_5_method_32_code 2 (some .int) :: wT
theorem dX3_generator_0 : decode cX3_generator 0 = .ok (.aload_n 0, 1) := by decide +kernel
theorem dX3_generator_1 : decode cX3_generator 1 = .ok (.iload_n 1, 1) := by decide +kernel
theorem dX3_generator_2 : decode cX3_generator 2 = .ok (.i2l, 1) := by decide +kernel
theorem dX3_generator_3 : decode cX3_generator 3 = .ok (.lconst 0, 1) := by decide +kernel
theorem dX3_generator_4 : decode cX3_generator 4 = .ok (.aload_n 0, 1) := by decide +kernel
theorem dX3_generator_5 : decode cX3_generator 5 = .ok (.getfield 125, 3) := by decide +kernel
theorem dX3_generator_8 : decode cX3_generator 8 = .ok (.iconst 1, 1) := by decide +kernel
theorem dX3_generator_9 : decode cX3_generator 9 = .ok (.isub, 1) := by decide +kernel
theorem dX3_generator_10 : decode cX3_generator 10 = .ok (.i2l, 1) := by decide +kernel
theorem dX3_generator_11 : decode cX3_generator 11 = .ok (.invokestatic 152, 3) := by decide +kernel
theorem dX3_generator_14 : decode cX3_generator 14 = .ok (.ifCond .eq 7, 3) := by decide +kernel
theorem dX3_generator_17 : decode cX3_generator 17 = .ok (.iconst 0, 1) := by decide +kernel
theorem dX3_generator_18 : decode cX3_generator 18 = .ok (.goto 4, 3) := by decide +kernel
theorem dX3_generator_21 : decode cX3_generator 21 = .ok (.iconst 1, 1) := by decide +kernel
theorem dX3_generator_22 : decode cX3_generator 22 = .ok (.putfield 46, 3) := by decide +kernel
theorem dX3_generator_25 : decode cX3_generator 25 = .ok (.aload_n 0, 1) := by decide +kernel
theorem dX3_generator_26 : decode cX3_generator 26 = .ok (.getfield 46, 3) := by decide +kernel
theorem dX3_generator_29 : decode cX3_generator 29 = .ok (.ifCond .le 7, 3) := by decide +kernel
theorem dX3_generator_32 : decode cX3_generator 32 = .ok (.iconst 0, 1) := by decide +kernel
theorem dX3_generator_33 : decode cX3_generator 33 = .ok (.goto 9, 3) := by decide +kernel
theorem dX3_generator_36 : decode cX3_generator 36 = .ok (.aload_n 0, 1) := by decide +kernel
theorem dX3_generator_37 : decode cX3_generator 37 = .ok (.getfield 34, 3) := by decide +kernel
theorem dX3_generator_40 : decode cX3_generator 40 = .ok (.iload_n 1, 1) := by decide +kernel
theorem dX3_generator_41 : decode cX3_generator 41 = .ok (.iaload, 1) := by decide +kernel
theorem dX3_generator_42 : decode cX3_generator 42 = .ok (.ireturn, 1) := by decide +kernel
abbrev cX3_exponent : ByteArray := prog_5_method_33_code
abbrev yX3_exponent : MethodName := ⟨"ClassGroupModel", "exponent", "(II)I"⟩
abbrev wsX3_exponent : List Cond := .code ⟨"ClassGroupModel", "exponent", "(II)I"⟩ prog_5_method_33_code 3 (some .int) :: wT
theorem dX3_exponent_0 : decode cX3_exponent 0 = .ok (.aload_n 0, 1) := by decide +kernel
theorem dX3_exponent_1 : decode cX3_exponent 1 = .ok (.aload_n 0, 1) := by decide +kernel
theorem dX3_exponent_2 : decode cX3_exponent 2 = .ok (.iload_n 1, 1) := by decide +kernel
theorem dX3_exponent_3 : decode cX3_exponent 3 = .ok (.invokevirtual 156, 3) := by decide +kernel
theorem dX3_exponent_6 : decode cX3_exponent 6 = .ok (.ifCond .eq 23, 3) := by decide +kernel
theorem dX3_exponent_9 : decode cX3_exponent 9 = .ok (.iload_n 2, 1) := by decide +kernel
theorem dX3_exponent_10 : decode cX3_exponent 10 = .ok (.i2l, 1) := by decide +kernel
theorem dX3_exponent_11 : decode cX3_exponent 11 = .ok (.lconst 0, 1) := by decide +kernel
theorem dX3_exponent_12 : decode cX3_exponent 12 = .ok (.aload_n 0, 1) := by decide +kernel
theorem dX3_exponent_13 : decode cX3_exponent 13 = .ok (.getfield 125, 3) := by decide +kernel
theorem dX3_exponent_16 : decode cX3_exponent 16 = .ok (.iconst 1, 1) := by decide +kernel
theorem dX3_exponent_17 : decode cX3_exponent 17 = .ok (.isub, 1) := by decide +kernel
theorem dX3_exponent_18 : decode cX3_exponent 18 = .ok (.i2l, 1) := by decide +kernel
theorem dX3_exponent_19 : decode cX3_exponent 19 = .ok (.invokestatic 152, 3) := by decide +kernel
theorem dX3_exponent_22 : decode cX3_exponent 22 = .ok (.ifCond .eq 7, 3) := by decide +kernel
theorem dX3_exponent_25 : decode cX3_exponent 25 = .ok (.iconst 0, 1) := by decide +kernel
theorem dX3_exponent_26 : decode cX3_exponent 26 = .ok (.goto 4, 3) := by decide +kernel
theorem dX3_exponent_29 : decode cX3_exponent 29 = .ok (.iconst 1, 1) := by decide +kernel
theorem dX3_exponent_30 : decode cX3_exponent 30 = .ok (.putfield 46, 3) := by decide +kernel
theorem dX3_exponent_33 : decode cX3_exponent 33 = .ok (.aload_n 0, 1) := by decide +kernel
theorem dX3_exponent_34 : decode cX3_exponent 34 = .ok (.getfield 46, 3) := by decide +kernel
theorem dX3_exponent_37 : decode cX3_exponent 37 = .ok (.ifCond .le 7, 3) := by decide +kernel
theorem dX3_exponent_40 : decode cX3_exponent 40 = .ok (.iconst 0, 1) := by decide +kernel
theorem dX3_exponent_41 : decode cX3_exponent 41 = .ok (.goto 14, 3) := by decide +kernel
theorem dX3_exponent_44 : decode cX3_exponent 44 = .ok (.aload_n 0, 1) := by decide +kernel
theorem dX3_exponent_45 : decode cX3_exponent 45 = .ok (.getfield 31, 3) := by decide +kernel
theorem dX3_exponent_48 : decode cX3_exponent 48 = .ok (.bipush 8, 2) := by decide +kernel
theorem dX3_exponent_50 : decode cX3_exponent 50 = .ok (.iload_n 1, 1) := by decide +kernel
theorem dX3_exponent_51 : decode cX3_exponent 51 = .ok (.imul, 1) := by decide +kernel
theorem dX3_exponent_52 : decode cX3_exponent 52 = .ok (.iload_n 2, 1) := by decide +kernel
theorem dX3_exponent_53 : decode cX3_exponent 53 = .ok (.iadd, 1) := by decide +kernel
theorem dX3_exponent_54 : decode cX3_exponent 54 = .ok (.iaload, 1) := by decide +kernel
theorem dX3_exponent_55 : decode cX3_exponent 55 = .ok (.ireturn, 1) := by decide +kernel
