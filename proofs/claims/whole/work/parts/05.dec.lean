abbrev cX0_reduce : ByteArray := prog_1_method_32_code
abbrev yX0_reduce : MethodName := ⟨"ClassGroup", "reduce", "(LClassGroup$Form;)V"⟩
abbrev wsX0_reduce : List Cond := .code ⟨"ClassGroup", "reduce", "(LClassGroup$Form;)V"⟩ prog_1_method_32_code 3 none :: wT
theorem dX0_reduce_0 : decode cX0_reduce 0 = .ok (.iconst 0, 1) := by decide +kernel
theorem dX0_reduce_1 : decode cX0_reduce 1 = .ok (.istore_n 2, 1) := by decide +kernel
theorem dX0_reduce_2 : decode cX0_reduce 2 = .ok (.iload_n 2, 1) := by decide +kernel
theorem dX0_reduce_3 : decode cX0_reduce 3 = .ok (.ldc 164, 2) := by decide +kernel
theorem dX0_reduce_5 : decode cX0_reduce 5 = .ok (.if_icmp .ge 22, 3) := by decide +kernel
theorem dX0_reduce_8 : decode cX0_reduce 8 = .ok (.aload_n 0, 1) := by decide +kernel
theorem dX0_reduce_9 : decode cX0_reduce 9 = .ok (.aload_n 1, 1) := by decide +kernel
theorem dX0_reduce_10 : decode cX0_reduce 10 = .ok (.invokevirtual 212, 3) := by decide +kernel
theorem dX0_reduce_13 : decode cX0_reduce 13 = .ok (.ifCond .ne 14, 3) := by decide +kernel
theorem dX0_reduce_16 : decode cX0_reduce 16 = .ok (.aload_n 0, 1) := by decide +kernel
theorem dX0_reduce_17 : decode cX0_reduce 17 = .ok (.aload_n 1, 1) := by decide +kernel
theorem dX0_reduce_18 : decode cX0_reduce 18 = .ok (.invokevirtual 215, 3) := by decide +kernel
theorem dX0_reduce_21 : decode cX0_reduce 21 = .ok (.iinc 2 1, 3) := by decide +kernel
theorem dX0_reduce_24 : decode cX0_reduce 24 = .ok (.goto (-22), 3) := by decide +kernel
theorem dX0_reduce_27 : decode cX0_reduce 27 = .ok (.return_, 1) := by decide +kernel
abbrev cX0_isLeastOfCycle : ByteArray := prog_1_method_34_code
abbrev yX0_isLeastOfCycle : MethodName := ⟨"ClassGroup", "isLeastOfCycle", "(LClassGroup$Form;)Z"⟩
abbrev wsX0_isLeastOfCycle : List Cond := .code ⟨"ClassGroup", "isLeastOfCycle", "(LClassGroup$Form;)Z"⟩ prog_1_method_34_code 5 (some .boolean) :: wT
theorem dX0_isLeastOfCycle_0 : decode cX0_isLeastOfCycle 0 = .ok (.aload_n 1, 1) := by decide +kernel
theorem dX0_isLeastOfCycle_1 : decode cX0_isLeastOfCycle 1 = .ok (.invokestatic 221, 3) := by decide +kernel
theorem dX0_isLeastOfCycle_4 : decode cX0_isLeastOfCycle 4 = .ok (.istore_n 2, 1) := by decide +kernel
theorem dX0_isLeastOfCycle_5 : decode cX0_isLeastOfCycle 5 = .ok (.iconst 0, 1) := by decide +kernel
theorem dX0_isLeastOfCycle_6 : decode cX0_isLeastOfCycle 6 = .ok (.istore_n 3, 1) := by decide +kernel
theorem dX0_isLeastOfCycle_7 : decode cX0_isLeastOfCycle 7 = .ok (.iload_n 3, 1) := by decide +kernel
theorem dX0_isLeastOfCycle_8 : decode cX0_isLeastOfCycle 8 = .ok (.ldc 164, 2) := by decide +kernel
theorem dX0_isLeastOfCycle_10 : decode cX0_isLeastOfCycle 10 = .ok (.if_icmp .ge 38, 3) := by decide +kernel
theorem dX0_isLeastOfCycle_13 : decode cX0_isLeastOfCycle 13 = .ok (.aload_n 0, 1) := by decide +kernel
theorem dX0_isLeastOfCycle_14 : decode cX0_isLeastOfCycle 14 = .ok (.aload_n 1, 1) := by decide +kernel
theorem dX0_isLeastOfCycle_15 : decode cX0_isLeastOfCycle 15 = .ok (.invokevirtual 215, 3) := by decide +kernel
theorem dX0_isLeastOfCycle_18 : decode cX0_isLeastOfCycle 18 = .ok (.aload_n 1, 1) := by decide +kernel
theorem dX0_isLeastOfCycle_19 : decode cX0_isLeastOfCycle 19 = .ok (.invokestatic 221, 3) := by decide +kernel
theorem dX0_isLeastOfCycle_22 : decode cX0_isLeastOfCycle 22 = .ok (.istore 4, 2) := by decide +kernel
theorem dX0_isLeastOfCycle_24 : decode cX0_isLeastOfCycle 24 = .ok (.iload 4, 2) := by decide +kernel
theorem dX0_isLeastOfCycle_26 : decode cX0_isLeastOfCycle 26 = .ok (.iload_n 2, 1) := by decide +kernel
theorem dX0_isLeastOfCycle_27 : decode cX0_isLeastOfCycle 27 = .ok (.if_icmp .gt 15, 3) := by decide +kernel
theorem dX0_isLeastOfCycle_30 : decode cX0_isLeastOfCycle 30 = .ok (.iload 4, 2) := by decide +kernel
theorem dX0_isLeastOfCycle_32 : decode cX0_isLeastOfCycle 32 = .ok (.iload_n 2, 1) := by decide +kernel
theorem dX0_isLeastOfCycle_33 : decode cX0_isLeastOfCycle 33 = .ok (.if_icmp .ne 7, 3) := by decide +kernel
theorem dX0_isLeastOfCycle_36 : decode cX0_isLeastOfCycle 36 = .ok (.iconst 1, 1) := by decide +kernel
theorem dX0_isLeastOfCycle_37 : decode cX0_isLeastOfCycle 37 = .ok (.goto 4, 3) := by decide +kernel
theorem dX0_isLeastOfCycle_40 : decode cX0_isLeastOfCycle 40 = .ok (.iconst 0, 1) := by decide +kernel
theorem dX0_isLeastOfCycle_41 : decode cX0_isLeastOfCycle 41 = .ok (.ireturn, 1) := by decide +kernel
theorem dX0_isLeastOfCycle_42 : decode cX0_isLeastOfCycle 42 = .ok (.iinc 3 1, 3) := by decide +kernel
theorem dX0_isLeastOfCycle_45 : decode cX0_isLeastOfCycle 45 = .ok (.goto (-38), 3) := by decide +kernel
theorem dX0_isLeastOfCycle_48 : decode cX0_isLeastOfCycle 48 = .ok (.iconst 0, 1) := by decide +kernel
theorem dX0_isLeastOfCycle_49 : decode cX0_isLeastOfCycle 49 = .ok (.ireturn, 1) := by decide +kernel
abbrev cX0_leastKey : ByteArray := prog_1_method_35_code
abbrev yX0_leastKey : MethodName := ⟨"ClassGroup", "leastKey", "(LClassGroup$Form;)I"⟩
abbrev wsX0_leastKey : List Cond := .code ⟨"ClassGroup", "leastKey", "(LClassGroup$Form;)I"⟩ prog_1_method_35_code 6 (some .int) :: wT
theorem dX0_leastKey_0 : decode cX0_leastKey 0 = .ok (.aload_n 1, 1) := by decide +kernel
theorem dX0_leastKey_1 : decode cX0_leastKey 1 = .ok (.invokestatic 221, 3) := by decide +kernel
theorem dX0_leastKey_4 : decode cX0_leastKey 4 = .ok (.istore_n 2, 1) := by decide +kernel
theorem dX0_leastKey_5 : decode cX0_leastKey 5 = .ok (.iload_n 2, 1) := by decide +kernel
theorem dX0_leastKey_6 : decode cX0_leastKey 6 = .ok (.istore_n 3, 1) := by decide +kernel
theorem dX0_leastKey_7 : decode cX0_leastKey 7 = .ok (.aload_n 0, 1) := by decide +kernel
theorem dX0_leastKey_8 : decode cX0_leastKey 8 = .ok (.getfield 64, 3) := by decide +kernel
theorem dX0_leastKey_11 : decode cX0_leastKey 11 = .ok (.ifCond .ge 5, 3) := by decide +kernel
theorem dX0_leastKey_14 : decode cX0_leastKey 14 = .ok (.iload_n 3, 1) := by decide +kernel
theorem dX0_leastKey_15 : decode cX0_leastKey 15 = .ok (.ireturn, 1) := by decide +kernel
theorem dX0_leastKey_16 : decode cX0_leastKey 16 = .ok (.iconst 0, 1) := by decide +kernel
theorem dX0_leastKey_17 : decode cX0_leastKey 17 = .ok (.istore 4, 2) := by decide +kernel
theorem dX0_leastKey_19 : decode cX0_leastKey 19 = .ok (.iload 4, 2) := by decide +kernel
theorem dX0_leastKey_21 : decode cX0_leastKey 21 = .ok (.ldc 164, 2) := by decide +kernel
theorem dX0_leastKey_23 : decode cX0_leastKey 23 = .ok (.if_icmp .ge 36, 3) := by decide +kernel
theorem dX0_leastKey_26 : decode cX0_leastKey 26 = .ok (.aload_n 0, 1) := by decide +kernel
theorem dX0_leastKey_27 : decode cX0_leastKey 27 = .ok (.aload_n 1, 1) := by decide +kernel
theorem dX0_leastKey_28 : decode cX0_leastKey 28 = .ok (.invokevirtual 215, 3) := by decide +kernel
theorem dX0_leastKey_31 : decode cX0_leastKey 31 = .ok (.aload_n 1, 1) := by decide +kernel
theorem dX0_leastKey_32 : decode cX0_leastKey 32 = .ok (.invokestatic 221, 3) := by decide +kernel
theorem dX0_leastKey_35 : decode cX0_leastKey 35 = .ok (.istore 5, 2) := by decide +kernel
theorem dX0_leastKey_37 : decode cX0_leastKey 37 = .ok (.iload 5, 2) := by decide +kernel
theorem dX0_leastKey_39 : decode cX0_leastKey 39 = .ok (.iload_n 2, 1) := by decide +kernel
theorem dX0_leastKey_40 : decode cX0_leastKey 40 = .ok (.if_icmp .ne 6, 3) := by decide +kernel
theorem dX0_leastKey_43 : decode cX0_leastKey 43 = .ok (.goto 16, 3) := by decide +kernel
theorem dX0_leastKey_46 : decode cX0_leastKey 46 = .ok (.iload_n 3, 1) := by decide +kernel
theorem dX0_leastKey_47 : decode cX0_leastKey 47 = .ok (.iload 5, 2) := by decide +kernel
theorem dX0_leastKey_49 : decode cX0_leastKey 49 = .ok (.invokestatic 224, 3) := by decide +kernel
theorem dX0_leastKey_52 : decode cX0_leastKey 52 = .ok (.istore_n 3, 1) := by decide +kernel
theorem dX0_leastKey_53 : decode cX0_leastKey 53 = .ok (.iinc 4 1, 3) := by decide +kernel
theorem dX0_leastKey_56 : decode cX0_leastKey 56 = .ok (.goto (-37), 3) := by decide +kernel
theorem dX0_leastKey_59 : decode cX0_leastKey 59 = .ok (.iload_n 3, 1) := by decide +kernel
theorem dX0_leastKey_60 : decode cX0_leastKey 60 = .ok (.ireturn, 1) := by decide +kernel
abbrev cX0_compose : ByteArray := prog_1_method_37_code
abbrev yX0_compose : MethodName := ⟨"ClassGroup", "compose", "(LClassGroup$Form;LClassGroup$Form;)V"⟩
abbrev wsX0_compose : List Cond := .code ⟨"ClassGroup", "compose", "(LClassGroup$Form;LClassGroup$Form;)V"⟩ prog_1_method_37_code 19 none :: wT
theorem dX0_compose_0 : decode cX0_compose 0 = .ok (.aload_n 0, 1) := by decide +kernel
theorem dX0_compose_1 : decode cX0_compose 1 = .ok (.getfield 41, 3) := by decide +kernel
theorem dX0_compose_4 : decode cX0_compose 4 = .ok (.aload_n 1, 1) := by decide +kernel
theorem dX0_compose_5 : decode cX0_compose 5 = .ok (.getfield 94, 3) := by decide +kernel
theorem dX0_compose_8 : decode cX0_compose 8 = .ok (.aload_n 2, 1) := by decide +kernel
theorem dX0_compose_9 : decode cX0_compose 9 = .ok (.getfield 94, 3) := by decide +kernel
theorem dX0_compose_12 : decode cX0_compose 12 = .ok (.invokevirtual 227, 3) := by decide +kernel
theorem dX0_compose_15 : decode cX0_compose 15 = .ok (.aload_n 0, 1) := by decide +kernel
theorem dX0_compose_16 : decode cX0_compose 16 = .ok (.getfield 41, 3) := by decide +kernel
theorem dX0_compose_19 : decode cX0_compose 19 = .ok (.getfield 231, 3) := by decide +kernel
theorem dX0_compose_22 : decode cX0_compose 22 = .ok (.lstore_n 3, 1) := by decide +kernel
theorem dX0_compose_23 : decode cX0_compose 23 = .ok (.aload_n 0, 1) := by decide +kernel
theorem dX0_compose_24 : decode cX0_compose 24 = .ok (.getfield 41, 3) := by decide +kernel
theorem dX0_compose_27 : decode cX0_compose 27 = .ok (.getfield 234, 3) := by decide +kernel
theorem dX0_compose_30 : decode cX0_compose 30 = .ok (.lstore 5, 2) := by decide +kernel
theorem dX0_compose_32 : decode cX0_compose 32 = .ok (.aload_n 0, 1) := by decide +kernel
theorem dX0_compose_33 : decode cX0_compose 33 = .ok (.getfield 41, 3) := by decide +kernel
theorem dX0_compose_36 : decode cX0_compose 36 = .ok (.aload_n 0, 1) := by decide +kernel
theorem dX0_compose_37 : decode cX0_compose 37 = .ok (.getfield 41, 3) := by decide +kernel
theorem dX0_compose_40 : decode cX0_compose 40 = .ok (.getfield 237, 3) := by decide +kernel
theorem dX0_compose_43 : decode cX0_compose 43 = .ok (.aload_n 1, 1) := by decide +kernel
theorem dX0_compose_44 : decode cX0_compose 44 = .ok (.getfield 98, 3) := by decide +kernel
theorem dX0_compose_47 : decode cX0_compose 47 = .ok (.aload_n 2, 1) := by decide +kernel
theorem dX0_compose_48 : decode cX0_compose 48 = .ok (.getfield 98, 3) := by decide +kernel
theorem dX0_compose_51 : decode cX0_compose 51 = .ok (.ladd, 1) := by decide +kernel
theorem dX0_compose_52 : decode cX0_compose 52 = .ok (.ldc2_w 210, 3) := by decide +kernel
theorem dX0_compose_55 : decode cX0_compose 55 = .ok (.ldiv, 1) := by decide +kernel
theorem dX0_compose_56 : decode cX0_compose 56 = .ok (.invokevirtual 227, 3) := by decide +kernel
theorem dX0_compose_59 : decode cX0_compose 59 = .ok (.aload_n 0, 1) := by decide +kernel
theorem dX0_compose_60 : decode cX0_compose 60 = .ok (.getfield 41, 3) := by decide +kernel
theorem dX0_compose_63 : decode cX0_compose 63 = .ok (.getfield 237, 3) := by decide +kernel
theorem dX0_compose_66 : decode cX0_compose 66 = .ok (.lstore 7, 2) := by decide +kernel
theorem dX0_compose_68 : decode cX0_compose 68 = .ok (.lload 7, 2) := by decide +kernel
theorem dX0_compose_70 : decode cX0_compose 70 = .ok (.lconst 0, 1) := by decide +kernel
theorem dX0_compose_71 : decode cX0_compose 71 = .ok (.lcmp, 1) := by decide +kernel
theorem dX0_compose_72 : decode cX0_compose 72 = .ok (.ifCond .ne 4, 3) := by decide +kernel
theorem dX0_compose_75 : decode cX0_compose 75 = .ok (.return_, 1) := by decide +kernel
theorem dX0_compose_76 : decode cX0_compose 76 = .ok (.aload_n 0, 1) := by decide +kernel
theorem dX0_compose_77 : decode cX0_compose 77 = .ok (.getfield 41, 3) := by decide +kernel
theorem dX0_compose_80 : decode cX0_compose 80 = .ok (.getfield 231, 3) := by decide +kernel
theorem dX0_compose_83 : decode cX0_compose 83 = .ok (.lload_n 3, 1) := by decide +kernel
theorem dX0_compose_84 : decode cX0_compose 84 = .ok (.lmul, 1) := by decide +kernel
theorem dX0_compose_85 : decode cX0_compose 85 = .ok (.lstore 9, 2) := by decide +kernel
theorem dX0_compose_87 : decode cX0_compose 87 = .ok (.aload_n 0, 1) := by decide +kernel
theorem dX0_compose_88 : decode cX0_compose 88 = .ok (.getfield 41, 3) := by decide +kernel
theorem dX0_compose_91 : decode cX0_compose 91 = .ok (.getfield 231, 3) := by decide +kernel
theorem dX0_compose_94 : decode cX0_compose 94 = .ok (.lload 5, 2) := by decide +kernel
theorem dX0_compose_96 : decode cX0_compose 96 = .ok (.lmul, 1) := by decide +kernel
theorem dX0_compose_97 : decode cX0_compose 97 = .ok (.lstore 11, 2) := by decide +kernel
theorem dX0_compose_99 : decode cX0_compose 99 = .ok (.aload_n 0, 1) := by decide +kernel
theorem dX0_compose_100 : decode cX0_compose 100 = .ok (.getfield 41, 3) := by decide +kernel
theorem dX0_compose_103 : decode cX0_compose 103 = .ok (.getfield 234, 3) := by decide +kernel
theorem dX0_compose_106 : decode cX0_compose 106 = .ok (.lstore 13, 2) := by decide +kernel
theorem dX0_compose_108 : decode cX0_compose 108 = .ok (.aload_n 1, 1) := by decide +kernel
theorem dX0_compose_109 : decode cX0_compose 109 = .ok (.getfield 94, 3) := by decide +kernel
theorem dX0_compose_112 : decode cX0_compose 112 = .ok (.lload 7, 2) := by decide +kernel
theorem dX0_compose_114 : decode cX0_compose 114 = .ok (.ldiv, 1) := by decide +kernel
theorem dX0_compose_115 : decode cX0_compose 115 = .ok (.aload_n 2, 1) := by decide +kernel
theorem dX0_compose_116 : decode cX0_compose 116 = .ok (.getfield 94, 3) := by decide +kernel
theorem dX0_compose_119 : decode cX0_compose 119 = .ok (.lload 7, 2) := by decide +kernel
theorem dX0_compose_121 : decode cX0_compose 121 = .ok (.ldiv, 1) := by decide +kernel
theorem dX0_compose_122 : decode cX0_compose 122 = .ok (.lmul, 1) := by decide +kernel
theorem dX0_compose_123 : decode cX0_compose 123 = .ok (.lstore 15, 2) := by decide +kernel
theorem dX0_compose_125 : decode cX0_compose 125 = .ok (.lload 9, 2) := by decide +kernel
theorem dX0_compose_127 : decode cX0_compose 127 = .ok (.aload_n 1, 1) := by decide +kernel
theorem dX0_compose_128 : decode cX0_compose 128 = .ok (.getfield 94, 3) := by decide +kernel
theorem dX0_compose_131 : decode cX0_compose 131 = .ok (.lmul, 1) := by decide +kernel
theorem dX0_compose_132 : decode cX0_compose 132 = .ok (.aload_n 2, 1) := by decide +kernel
theorem dX0_compose_133 : decode cX0_compose 133 = .ok (.getfield 98, 3) := by decide +kernel
theorem dX0_compose_136 : decode cX0_compose 136 = .ok (.lmul, 1) := by decide +kernel
theorem dX0_compose_137 : decode cX0_compose 137 = .ok (.lload 11, 2) := by decide +kernel
theorem dX0_compose_139 : decode cX0_compose 139 = .ok (.aload_n 2, 1) := by decide +kernel
theorem dX0_compose_140 : decode cX0_compose 140 = .ok (.getfield 94, 3) := by decide +kernel
theorem dX0_compose_143 : decode cX0_compose 143 = .ok (.lmul, 1) := by decide +kernel
theorem dX0_compose_144 : decode cX0_compose 144 = .ok (.aload_n 1, 1) := by decide +kernel
theorem dX0_compose_145 : decode cX0_compose 145 = .ok (.getfield 98, 3) := by decide +kernel
theorem dX0_compose_148 : decode cX0_compose 148 = .ok (.lmul, 1) := by decide +kernel
theorem dX0_compose_149 : decode cX0_compose 149 = .ok (.ladd, 1) := by decide +kernel
theorem dX0_compose_150 : decode cX0_compose 150 = .ok (.lload 13, 2) := by decide +kernel
theorem dX0_compose_152 : decode cX0_compose 152 = .ok (.aload_n 1, 1) := by decide +kernel
theorem dX0_compose_153 : decode cX0_compose 153 = .ok (.getfield 98, 3) := by decide +kernel
theorem dX0_compose_156 : decode cX0_compose 156 = .ok (.aload_n 2, 1) := by decide +kernel
theorem dX0_compose_157 : decode cX0_compose 157 = .ok (.getfield 98, 3) := by decide +kernel
theorem dX0_compose_160 : decode cX0_compose 160 = .ok (.lmul, 1) := by decide +kernel
theorem dX0_compose_161 : decode cX0_compose 161 = .ok (.aload_n 0, 1) := by decide +kernel
theorem dX0_compose_162 : decode cX0_compose 162 = .ok (.getfield 64, 3) := by decide +kernel
theorem dX0_compose_165 : decode cX0_compose 165 = .ok (.i2l, 1) := by decide +kernel
theorem dX0_compose_166 : decode cX0_compose 166 = .ok (.ladd, 1) := by decide +kernel
theorem dX0_compose_167 : decode cX0_compose 167 = .ok (.ldc2_w 210, 3) := by decide +kernel
theorem dX0_compose_170 : decode cX0_compose 170 = .ok (.ldiv, 1) := by decide +kernel
theorem dX0_compose_171 : decode cX0_compose 171 = .ok (.lmul, 1) := by decide +kernel
theorem dX0_compose_172 : decode cX0_compose 172 = .ok (.ladd, 1) := by decide +kernel
theorem dX0_compose_173 : decode cX0_compose 173 = .ok (.lload 7, 2) := by decide +kernel
theorem dX0_compose_175 : decode cX0_compose 175 = .ok (.ldiv, 1) := by decide +kernel
theorem dX0_compose_176 : decode cX0_compose 176 = .ok (.lstore 17, 2) := by decide +kernel
theorem dX0_compose_178 : decode cX0_compose 178 = .ok (.lload 15, 2) := by decide +kernel
theorem dX0_compose_180 : decode cX0_compose 180 = .ok (.lconst 0, 1) := by decide +kernel
theorem dX0_compose_181 : decode cX0_compose 181 = .ok (.lcmp, 1) := by decide +kernel
theorem dX0_compose_182 : decode cX0_compose 182 = .ok (.ifCond .eq 45, 3) := by decide +kernel
theorem dX0_compose_185 : decode cX0_compose 185 = .ok (.lload 17, 2) := by decide +kernel
theorem dX0_compose_187 : decode cX0_compose 187 = .ok (.ldc2_w 210, 3) := by decide +kernel
theorem dX0_compose_190 : decode cX0_compose 190 = .ok (.lload 15, 2) := by decide +kernel
theorem dX0_compose_192 : decode cX0_compose 192 = .ok (.invokestatic 132, 3) := by decide +kernel
theorem dX0_compose_195 : decode cX0_compose 195 = .ok (.lmul, 1) := by decide +kernel
theorem dX0_compose_196 : decode cX0_compose 196 = .ok (.invokestatic 218, 3) := by decide +kernel
theorem dX0_compose_199 : decode cX0_compose 199 = .ok (.lstore 17, 2) := by decide +kernel
theorem dX0_compose_201 : decode cX0_compose 201 = .ok (.aload_n 1, 1) := by decide +kernel
theorem dX0_compose_202 : decode cX0_compose 202 = .ok (.lload 15, 2) := by decide +kernel
theorem dX0_compose_204 : decode cX0_compose 204 = .ok (.lload 17, 2) := by decide +kernel
theorem dX0_compose_206 : decode cX0_compose 206 = .ok (.lload 17, 2) := by decide +kernel
theorem dX0_compose_208 : decode cX0_compose 208 = .ok (.lload 17, 2) := by decide +kernel
theorem dX0_compose_210 : decode cX0_compose 210 = .ok (.lmul, 1) := by decide +kernel
theorem dX0_compose_211 : decode cX0_compose 211 = .ok (.aload_n 0, 1) := by decide +kernel
theorem dX0_compose_212 : decode cX0_compose 212 = .ok (.getfield 64, 3) := by decide +kernel
theorem dX0_compose_215 : decode cX0_compose 215 = .ok (.i2l, 1) := by decide +kernel
theorem dX0_compose_216 : decode cX0_compose 216 = .ok (.lsub, 1) := by decide +kernel
theorem dX0_compose_217 : decode cX0_compose 217 = .ok (.ldc2_w 152, 3) := by decide +kernel
theorem dX0_compose_220 : decode cX0_compose 220 = .ok (.lload 15, 2) := by decide +kernel
theorem dX0_compose_222 : decode cX0_compose 222 = .ok (.lmul, 1) := by decide +kernel
theorem dX0_compose_223 : decode cX0_compose 223 = .ok (.ldiv, 1) := by decide +kernel
theorem dX0_compose_224 : decode cX0_compose 224 = .ok (.invokevirtual 110, 3) := by decide +kernel
theorem dX0_compose_227 : decode cX0_compose 227 = .ok (.return_, 1) := by decide +kernel
abbrev cX0_multiply : ByteArray := prog_1_method_36_code
abbrev yX0_multiply : MethodName := ⟨"ClassGroup", "multiply", "(II)I"⟩
abbrev wsX0_multiply : List Cond := .code ⟨"ClassGroup", "multiply", "(II)I"⟩ prog_1_method_36_code 3 (some .int) :: wT
theorem dX0_multiply_0 : decode cX0_multiply 0 = .ok (.aload_n 0, 1) := by decide +kernel
theorem dX0_multiply_1 : decode cX0_multiply 1 = .ok (.aload_n 0, 1) := by decide +kernel
theorem dX0_multiply_2 : decode cX0_multiply 2 = .ok (.getfield 31, 3) := by decide +kernel
theorem dX0_multiply_5 : decode cX0_multiply 5 = .ok (.iload_n 1, 1) := by decide +kernel
theorem dX0_multiply_6 : decode cX0_multiply 6 = .ok (.invokevirtual 90, 3) := by decide +kernel
theorem dX0_multiply_9 : decode cX0_multiply 9 = .ok (.aload_n 0, 1) := by decide +kernel
theorem dX0_multiply_10 : decode cX0_multiply 10 = .ok (.aload_n 0, 1) := by decide +kernel
theorem dX0_multiply_11 : decode cX0_multiply 11 = .ok (.getfield 35, 3) := by decide +kernel
theorem dX0_multiply_14 : decode cX0_multiply 14 = .ok (.iload_n 2, 1) := by decide +kernel
theorem dX0_multiply_15 : decode cX0_multiply 15 = .ok (.invokevirtual 90, 3) := by decide +kernel
theorem dX0_multiply_18 : decode cX0_multiply 18 = .ok (.aload_n 0, 1) := by decide +kernel
theorem dX0_multiply_19 : decode cX0_multiply 19 = .ok (.aload_n 0, 1) := by decide +kernel
theorem dX0_multiply_20 : decode cX0_multiply 20 = .ok (.getfield 31, 3) := by decide +kernel
theorem dX0_multiply_23 : decode cX0_multiply 23 = .ok (.aload_n 0, 1) := by decide +kernel
theorem dX0_multiply_24 : decode cX0_multiply 24 = .ok (.getfield 35, 3) := by decide +kernel
theorem dX0_multiply_27 : decode cX0_multiply 27 = .ok (.invokevirtual 138, 3) := by decide +kernel
theorem dX0_multiply_30 : decode cX0_multiply 30 = .ok (.aload_n 0, 1) := by decide +kernel
theorem dX0_multiply_31 : decode cX0_multiply 31 = .ok (.aload_n 0, 1) := by decide +kernel
theorem dX0_multiply_32 : decode cX0_multiply 32 = .ok (.getfield 31, 3) := by decide +kernel
theorem dX0_multiply_35 : decode cX0_multiply 35 = .ok (.invokevirtual 114, 3) := by decide +kernel
theorem dX0_multiply_38 : decode cX0_multiply 38 = .ok (.aload_n 0, 1) := by decide +kernel
theorem dX0_multiply_39 : decode cX0_multiply 39 = .ok (.aload_n 0, 1) := by decide +kernel
theorem dX0_multiply_40 : decode cX0_multiply 40 = .ok (.aload_n 0, 1) := by decide +kernel
theorem dX0_multiply_41 : decode cX0_multiply 41 = .ok (.getfield 31, 3) := by decide +kernel
theorem dX0_multiply_44 : decode cX0_multiply 44 = .ok (.invokevirtual 118, 3) := by decide +kernel
theorem dX0_multiply_47 : decode cX0_multiply 47 = .ok (.invokevirtual 122, 3) := by decide +kernel
theorem dX0_multiply_50 : decode cX0_multiply 50 = .ok (.ireturn, 1) := by decide +kernel
abbrev cX0_keepDefinite : ByteArray := prog_1_method_22_code
abbrev yX0_keepDefinite : MethodName := ⟨"ClassGroup", "keepDefinite", "(III)V"⟩
abbrev wsX0_keepDefinite : List Cond := .code ⟨"ClassGroup", "keepDefinite", "(III)V"⟩ prog_1_method_22_code 4 none :: wT
theorem dX0_keepDefinite_0 : decode cX0_keepDefinite 0 = .ok (.iload_n 1, 1) := by decide +kernel
theorem dX0_keepDefinite_1 : decode cX0_keepDefinite 1 = .ok (.iload_n 3, 1) := by decide +kernel
theorem dX0_keepDefinite_2 : decode cX0_keepDefinite 2 = .ok (.if_icmp .gt 12, 3) := by decide +kernel
theorem dX0_keepDefinite_5 : decode cX0_keepDefinite 5 = .ok (.iload_n 1, 1) := by decide +kernel
theorem dX0_keepDefinite_6 : decode cX0_keepDefinite 6 = .ok (.iload_n 2, 1) := by decide +kernel
theorem dX0_keepDefinite_7 : decode cX0_keepDefinite 7 = .ok (.iload_n 3, 1) := by decide +kernel
theorem dX0_keepDefinite_8 : decode cX0_keepDefinite 8 = .ok (.invokestatic 154, 3) := by decide +kernel
theorem dX0_keepDefinite_11 : decode cX0_keepDefinite 11 = .ok (.ifCond .ne 4, 3) := by decide +kernel
theorem dX0_keepDefinite_14 : decode cX0_keepDefinite 14 = .ok (.return_, 1) := by decide +kernel
theorem dX0_keepDefinite_15 : decode cX0_keepDefinite 15 = .ok (.aload_n 0, 1) := by decide +kernel
theorem dX0_keepDefinite_16 : decode cX0_keepDefinite 16 = .ok (.dup, 1) := by decide +kernel
theorem dX0_keepDefinite_17 : decode cX0_keepDefinite 17 = .ok (.getfield 79, 3) := by decide +kernel
theorem dX0_keepDefinite_20 : decode cX0_keepDefinite 20 = .ok (.iconst 1, 1) := by decide +kernel
theorem dX0_keepDefinite_21 : decode cX0_keepDefinite 21 = .ok (.iadd, 1) := by decide +kernel
theorem dX0_keepDefinite_22 : decode cX0_keepDefinite 22 = .ok (.putfield 79, 3) := by decide +kernel
theorem dX0_keepDefinite_25 : decode cX0_keepDefinite 25 = .ok (.aload_n 0, 1) := by decide +kernel
theorem dX0_keepDefinite_26 : decode cX0_keepDefinite 26 = .ok (.iload_n 1, 1) := by decide +kernel
theorem dX0_keepDefinite_27 : decode cX0_keepDefinite 27 = .ok (.iload_n 2, 1) := by decide +kernel
theorem dX0_keepDefinite_28 : decode cX0_keepDefinite 28 = .ok (.invokevirtual 193, 3) := by decide +kernel
theorem dX0_keepDefinite_31 : decode cX0_keepDefinite 31 = .ok (.iload_n 2, 1) := by decide +kernel
theorem dX0_keepDefinite_32 : decode cX0_keepDefinite 32 = .ok (.ifCond .le 30, 3) := by decide +kernel
theorem dX0_keepDefinite_35 : decode cX0_keepDefinite 35 = .ok (.iload_n 2, 1) := by decide +kernel
theorem dX0_keepDefinite_36 : decode cX0_keepDefinite 36 = .ok (.iload_n 1, 1) := by decide +kernel
theorem dX0_keepDefinite_37 : decode cX0_keepDefinite 37 = .ok (.if_icmp .ge 25, 3) := by decide +kernel
theorem dX0_keepDefinite_40 : decode cX0_keepDefinite 40 = .ok (.iload_n 1, 1) := by decide +kernel
theorem dX0_keepDefinite_41 : decode cX0_keepDefinite 41 = .ok (.iload_n 3, 1) := by decide +kernel
theorem dX0_keepDefinite_42 : decode cX0_keepDefinite 42 = .ok (.if_icmp .ge 20, 3) := by decide +kernel
theorem dX0_keepDefinite_45 : decode cX0_keepDefinite 45 = .ok (.aload_n 0, 1) := by decide +kernel
theorem dX0_keepDefinite_46 : decode cX0_keepDefinite 46 = .ok (.dup, 1) := by decide +kernel
theorem dX0_keepDefinite_47 : decode cX0_keepDefinite 47 = .ok (.getfield 79, 3) := by decide +kernel
theorem dX0_keepDefinite_50 : decode cX0_keepDefinite 50 = .ok (.iconst 1, 1) := by decide +kernel
theorem dX0_keepDefinite_51 : decode cX0_keepDefinite 51 = .ok (.iadd, 1) := by decide +kernel
theorem dX0_keepDefinite_52 : decode cX0_keepDefinite 52 = .ok (.putfield 79, 3) := by decide +kernel
theorem dX0_keepDefinite_55 : decode cX0_keepDefinite 55 = .ok (.aload_n 0, 1) := by decide +kernel
theorem dX0_keepDefinite_56 : decode cX0_keepDefinite 56 = .ok (.iload_n 1, 1) := by decide +kernel
theorem dX0_keepDefinite_57 : decode cX0_keepDefinite 57 = .ok (.iload_n 2, 1) := by decide +kernel
theorem dX0_keepDefinite_58 : decode cX0_keepDefinite 58 = .ok (.ineg, 1) := by decide +kernel
theorem dX0_keepDefinite_59 : decode cX0_keepDefinite 59 = .ok (.invokevirtual 193, 3) := by decide +kernel
theorem dX0_keepDefinite_62 : decode cX0_keepDefinite 62 = .ok (.return_, 1) := by decide +kernel
abbrev cX0_nameDefinite : ByteArray := prog_1_method_21_code
abbrev yX0_nameDefinite : MethodName := ⟨"ClassGroup", "nameDefinite", "()V"⟩
abbrev wsX0_nameDefinite : List Cond := .code ⟨"ClassGroup", "nameDefinite", "()V"⟩ prog_1_method_21_code 4 none :: wT
theorem dX0_nameDefinite_0 : decode cX0_nameDefinite 0 = .ok (.iconst 1, 1) := by decide +kernel
theorem dX0_nameDefinite_1 : decode cX0_nameDefinite 1 = .ok (.istore_n 1, 1) := by decide +kernel
theorem dX0_nameDefinite_2 : decode cX0_nameDefinite 2 = .ok (.iconst 3, 1) := by decide +kernel
theorem dX0_nameDefinite_3 : decode cX0_nameDefinite 3 = .ok (.iload_n 1, 1) := by decide +kernel
theorem dX0_nameDefinite_4 : decode cX0_nameDefinite 4 = .ok (.imul, 1) := by decide +kernel
theorem dX0_nameDefinite_5 : decode cX0_nameDefinite 5 = .ok (.iload_n 1, 1) := by decide +kernel
theorem dX0_nameDefinite_6 : decode cX0_nameDefinite 6 = .ok (.imul, 1) := by decide +kernel
theorem dX0_nameDefinite_7 : decode cX0_nameDefinite 7 = .ok (.aload_n 0, 1) := by decide +kernel
theorem dX0_nameDefinite_8 : decode cX0_nameDefinite 8 = .ok (.getfield 64, 3) := by decide +kernel
theorem dX0_nameDefinite_11 : decode cX0_nameDefinite 11 = .ok (.ineg, 1) := by decide +kernel
theorem dX0_nameDefinite_12 : decode cX0_nameDefinite 12 = .ok (.if_icmp .gt 54, 3) := by decide +kernel
theorem dX0_nameDefinite_15 : decode cX0_nameDefinite 15 = .ok (.aload_n 0, 1) := by decide +kernel
theorem dX0_nameDefinite_16 : decode cX0_nameDefinite 16 = .ok (.iconst 0, 1) := by decide +kernel
theorem dX0_nameDefinite_17 : decode cX0_nameDefinite 17 = .ok (.invokevirtual 186, 3) := by decide +kernel
theorem dX0_nameDefinite_20 : decode cX0_nameDefinite 20 = .ok (.istore_n 2, 1) := by decide +kernel
theorem dX0_nameDefinite_21 : decode cX0_nameDefinite 21 = .ok (.iload_n 2, 1) := by decide +kernel
theorem dX0_nameDefinite_22 : decode cX0_nameDefinite 22 = .ok (.iload_n 1, 1) := by decide +kernel
theorem dX0_nameDefinite_23 : decode cX0_nameDefinite 23 = .ok (.if_icmp .gt 37, 3) := by decide +kernel
theorem dX0_nameDefinite_26 : decode cX0_nameDefinite 26 = .ok (.iload_n 2, 1) := by decide +kernel
theorem dX0_nameDefinite_27 : decode cX0_nameDefinite 27 = .ok (.iload_n 2, 1) := by decide +kernel
theorem dX0_nameDefinite_28 : decode cX0_nameDefinite 28 = .ok (.imul, 1) := by decide +kernel
theorem dX0_nameDefinite_29 : decode cX0_nameDefinite 29 = .ok (.aload_n 0, 1) := by decide +kernel
theorem dX0_nameDefinite_30 : decode cX0_nameDefinite 30 = .ok (.getfield 64, 3) := by decide +kernel
theorem dX0_nameDefinite_33 : decode cX0_nameDefinite 33 = .ok (.isub, 1) := by decide +kernel
theorem dX0_nameDefinite_34 : decode cX0_nameDefinite 34 = .ok (.istore_n 3, 1) := by decide +kernel
theorem dX0_nameDefinite_35 : decode cX0_nameDefinite 35 = .ok (.iload_n 3, 1) := by decide +kernel
theorem dX0_nameDefinite_36 : decode cX0_nameDefinite 36 = .ok (.iconst 4, 1) := by decide +kernel
theorem dX0_nameDefinite_37 : decode cX0_nameDefinite 37 = .ok (.iload_n 1, 1) := by decide +kernel
theorem dX0_nameDefinite_38 : decode cX0_nameDefinite 38 = .ok (.imul, 1) := by decide +kernel
theorem dX0_nameDefinite_39 : decode cX0_nameDefinite 39 = .ok (.irem, 1) := by decide +kernel
theorem dX0_nameDefinite_40 : decode cX0_nameDefinite 40 = .ok (.ifCond .ne 14, 3) := by decide +kernel
theorem dX0_nameDefinite_43 : decode cX0_nameDefinite 43 = .ok (.aload_n 0, 1) := by decide +kernel
theorem dX0_nameDefinite_44 : decode cX0_nameDefinite 44 = .ok (.iload_n 1, 1) := by decide +kernel
theorem dX0_nameDefinite_45 : decode cX0_nameDefinite 45 = .ok (.iload_n 2, 1) := by decide +kernel
theorem dX0_nameDefinite_46 : decode cX0_nameDefinite 46 = .ok (.iload_n 3, 1) := by decide +kernel
theorem dX0_nameDefinite_47 : decode cX0_nameDefinite 47 = .ok (.iconst 4, 1) := by decide +kernel
theorem dX0_nameDefinite_48 : decode cX0_nameDefinite 48 = .ok (.iload_n 1, 1) := by decide +kernel
theorem dX0_nameDefinite_49 : decode cX0_nameDefinite 49 = .ok (.imul, 1) := by decide +kernel
theorem dX0_nameDefinite_50 : decode cX0_nameDefinite 50 = .ok (.idiv, 1) := by decide +kernel
theorem dX0_nameDefinite_51 : decode cX0_nameDefinite 51 = .ok (.invokevirtual 189, 3) := by decide +kernel
theorem dX0_nameDefinite_54 : decode cX0_nameDefinite 54 = .ok (.iinc 2 2, 3) := by decide +kernel
theorem dX0_nameDefinite_57 : decode cX0_nameDefinite 57 = .ok (.goto (-36), 3) := by decide +kernel
theorem dX0_nameDefinite_60 : decode cX0_nameDefinite 60 = .ok (.iinc 1 1, 3) := by decide +kernel
theorem dX0_nameDefinite_63 : decode cX0_nameDefinite 63 = .ok (.goto (-61), 3) := by decide +kernel
theorem dX0_nameDefinite_66 : decode cX0_nameDefinite 66 = .ok (.return_, 1) := by decide +kernel
abbrev cX0_addNameIfLeast : ByteArray := prog_1_method_25_code
abbrev yX0_addNameIfLeast : MethodName := ⟨"ClassGroup", "addNameIfLeast", "(III)V"⟩
abbrev wsX0_addNameIfLeast : List Cond := .code ⟨"ClassGroup", "addNameIfLeast", "(III)V"⟩ prog_1_method_25_code 4 none :: wT
theorem dX0_addNameIfLeast_0 : decode cX0_addNameIfLeast 0 = .ok (.aload_n 0, 1) := by decide +kernel
theorem dX0_addNameIfLeast_1 : decode cX0_addNameIfLeast 1 = .ok (.getfield 31, 3) := by decide +kernel
theorem dX0_addNameIfLeast_4 : decode cX0_addNameIfLeast 4 = .ok (.iload_n 1, 1) := by decide +kernel
theorem dX0_addNameIfLeast_5 : decode cX0_addNameIfLeast 5 = .ok (.i2l, 1) := by decide +kernel
theorem dX0_addNameIfLeast_6 : decode cX0_addNameIfLeast 6 = .ok (.iload_n 2, 1) := by decide +kernel
theorem dX0_addNameIfLeast_7 : decode cX0_addNameIfLeast 7 = .ok (.i2l, 1) := by decide +kernel
theorem dX0_addNameIfLeast_8 : decode cX0_addNameIfLeast 8 = .ok (.iload_n 3, 1) := by decide +kernel
theorem dX0_addNameIfLeast_9 : decode cX0_addNameIfLeast 9 = .ok (.i2l, 1) := by decide +kernel
theorem dX0_addNameIfLeast_10 : decode cX0_addNameIfLeast 10 = .ok (.invokevirtual 110, 3) := by decide +kernel
theorem dX0_addNameIfLeast_13 : decode cX0_addNameIfLeast 13 = .ok (.aload_n 0, 1) := by decide +kernel
theorem dX0_addNameIfLeast_14 : decode cX0_addNameIfLeast 14 = .ok (.aload_n 0, 1) := by decide +kernel
theorem dX0_addNameIfLeast_15 : decode cX0_addNameIfLeast 15 = .ok (.getfield 31, 3) := by decide +kernel
theorem dX0_addNameIfLeast_18 : decode cX0_addNameIfLeast 18 = .ok (.invokevirtual 203, 3) := by decide +kernel
theorem dX0_addNameIfLeast_21 : decode cX0_addNameIfLeast 21 = .ok (.ifCond .eq 9, 3) := by decide +kernel
theorem dX0_addNameIfLeast_24 : decode cX0_addNameIfLeast 24 = .ok (.aload_n 0, 1) := by decide +kernel
theorem dX0_addNameIfLeast_25 : decode cX0_addNameIfLeast 25 = .ok (.iload_n 1, 1) := by decide +kernel
theorem dX0_addNameIfLeast_26 : decode cX0_addNameIfLeast 26 = .ok (.iload_n 2, 1) := by decide +kernel
theorem dX0_addNameIfLeast_27 : decode cX0_addNameIfLeast 27 = .ok (.invokevirtual 193, 3) := by decide +kernel
theorem dX0_addNameIfLeast_30 : decode cX0_addNameIfLeast 30 = .ok (.return_, 1) := by decide +kernel
abbrev cX0_keepIndefinite : ByteArray := prog_1_method_24_code
abbrev yX0_keepIndefinite : MethodName := ⟨"ClassGroup", "keepIndefinite", "(III)V"⟩
abbrev wsX0_keepIndefinite : List Cond := .code ⟨"ClassGroup", "keepIndefinite", "(III)V"⟩ prog_1_method_24_code 4 none :: wT
theorem dX0_keepIndefinite_0 : decode cX0_keepIndefinite 0 = .ok (.iload_n 1, 1) := by decide +kernel
theorem dX0_keepIndefinite_1 : decode cX0_keepIndefinite 1 = .ok (.iload_n 2, 1) := by decide +kernel
theorem dX0_keepIndefinite_2 : decode cX0_keepIndefinite 2 = .ok (.iload_n 3, 1) := by decide +kernel
theorem dX0_keepIndefinite_3 : decode cX0_keepIndefinite 3 = .ok (.invokestatic 154, 3) := by decide +kernel
theorem dX0_keepIndefinite_6 : decode cX0_keepIndefinite 6 = .ok (.ifCond .ne 4, 3) := by decide +kernel
theorem dX0_keepIndefinite_9 : decode cX0_keepIndefinite 9 = .ok (.return_, 1) := by decide +kernel
theorem dX0_keepIndefinite_10 : decode cX0_keepIndefinite 10 = .ok (.aload_n 0, 1) := by decide +kernel
theorem dX0_keepIndefinite_11 : decode cX0_keepIndefinite 11 = .ok (.dup, 1) := by decide +kernel
theorem dX0_keepIndefinite_12 : decode cX0_keepIndefinite 12 = .ok (.getfield 79, 3) := by decide +kernel
theorem dX0_keepIndefinite_15 : decode cX0_keepIndefinite 15 = .ok (.iconst 2, 1) := by decide +kernel
theorem dX0_keepIndefinite_16 : decode cX0_keepIndefinite 16 = .ok (.iadd, 1) := by decide +kernel
theorem dX0_keepIndefinite_17 : decode cX0_keepIndefinite 17 = .ok (.putfield 79, 3) := by decide +kernel
theorem dX0_keepIndefinite_20 : decode cX0_keepIndefinite 20 = .ok (.aload_n 0, 1) := by decide +kernel
theorem dX0_keepIndefinite_21 : decode cX0_keepIndefinite 21 = .ok (.iload_n 1, 1) := by decide +kernel
theorem dX0_keepIndefinite_22 : decode cX0_keepIndefinite 22 = .ok (.ineg, 1) := by decide +kernel
theorem dX0_keepIndefinite_23 : decode cX0_keepIndefinite 23 = .ok (.iload_n 2, 1) := by decide +kernel
theorem dX0_keepIndefinite_24 : decode cX0_keepIndefinite 24 = .ok (.iload_n 3, 1) := by decide +kernel
theorem dX0_keepIndefinite_25 : decode cX0_keepIndefinite 25 = .ok (.invokevirtual 200, 3) := by decide +kernel
theorem dX0_keepIndefinite_28 : decode cX0_keepIndefinite 28 = .ok (.iload_n 1, 1) := by decide +kernel
theorem dX0_keepIndefinite_29 : decode cX0_keepIndefinite 29 = .ok (.iload_n 3, 1) := by decide +kernel
theorem dX0_keepIndefinite_30 : decode cX0_keepIndefinite 30 = .ok (.if_icmp .ge 21, 3) := by decide +kernel
theorem dX0_keepIndefinite_33 : decode cX0_keepIndefinite 33 = .ok (.aload_n 0, 1) := by decide +kernel
theorem dX0_keepIndefinite_34 : decode cX0_keepIndefinite 34 = .ok (.dup, 1) := by decide +kernel
theorem dX0_keepIndefinite_35 : decode cX0_keepIndefinite 35 = .ok (.getfield 79, 3) := by decide +kernel
theorem dX0_keepIndefinite_38 : decode cX0_keepIndefinite 38 = .ok (.iconst 2, 1) := by decide +kernel
theorem dX0_keepIndefinite_39 : decode cX0_keepIndefinite 39 = .ok (.iadd, 1) := by decide +kernel
theorem dX0_keepIndefinite_40 : decode cX0_keepIndefinite 40 = .ok (.putfield 79, 3) := by decide +kernel
theorem dX0_keepIndefinite_43 : decode cX0_keepIndefinite 43 = .ok (.aload_n 0, 1) := by decide +kernel
theorem dX0_keepIndefinite_44 : decode cX0_keepIndefinite 44 = .ok (.iload_n 3, 1) := by decide +kernel
theorem dX0_keepIndefinite_45 : decode cX0_keepIndefinite 45 = .ok (.ineg, 1) := by decide +kernel
theorem dX0_keepIndefinite_46 : decode cX0_keepIndefinite 46 = .ok (.iload_n 2, 1) := by decide +kernel
theorem dX0_keepIndefinite_47 : decode cX0_keepIndefinite 47 = .ok (.iload_n 1, 1) := by decide +kernel
theorem dX0_keepIndefinite_48 : decode cX0_keepIndefinite 48 = .ok (.invokevirtual 200, 3) := by decide +kernel
theorem dX0_keepIndefinite_51 : decode cX0_keepIndefinite 51 = .ok (.return_, 1) := by decide +kernel
abbrev cX0_nameIndefinite : ByteArray := prog_1_method_23_code
abbrev yX0_nameIndefinite : MethodName := ⟨"ClassGroup", "nameIndefinite", "()V"⟩
abbrev wsX0_nameIndefinite : List Cond := .code ⟨"ClassGroup", "nameIndefinite", "()V"⟩ prog_1_method_23_code 4 none :: wT
theorem dX0_nameIndefinite_0 : decode cX0_nameIndefinite 0 = .ok (.aload_n 0, 1) := by decide +kernel
theorem dX0_nameIndefinite_1 : decode cX0_nameIndefinite 1 = .ok (.iconst 1, 1) := by decide +kernel
theorem dX0_nameIndefinite_2 : decode cX0_nameIndefinite 2 = .ok (.invokevirtual 186, 3) := by decide +kernel
theorem dX0_nameIndefinite_5 : decode cX0_nameIndefinite 5 = .ok (.istore_n 1, 1) := by decide +kernel
theorem dX0_nameIndefinite_6 : decode cX0_nameIndefinite 6 = .ok (.iload_n 1, 1) := by decide +kernel
theorem dX0_nameIndefinite_7 : decode cX0_nameIndefinite 7 = .ok (.aload_n 0, 1) := by decide +kernel
theorem dX0_nameIndefinite_8 : decode cX0_nameIndefinite 8 = .ok (.getfield 173, 3) := by decide +kernel
theorem dX0_nameIndefinite_11 : decode cX0_nameIndefinite 11 = .ok (.if_icmp .gt 59, 3) := by decide +kernel
theorem dX0_nameIndefinite_14 : decode cX0_nameIndefinite 14 = .ok (.aload_n 0, 1) := by decide +kernel
theorem dX0_nameIndefinite_15 : decode cX0_nameIndefinite 15 = .ok (.getfield 64, 3) := by decide +kernel
theorem dX0_nameIndefinite_18 : decode cX0_nameIndefinite 18 = .ok (.iload_n 1, 1) := by decide +kernel
theorem dX0_nameIndefinite_19 : decode cX0_nameIndefinite 19 = .ok (.iload_n 1, 1) := by decide +kernel
theorem dX0_nameIndefinite_20 : decode cX0_nameIndefinite 20 = .ok (.imul, 1) := by decide +kernel
theorem dX0_nameIndefinite_21 : decode cX0_nameIndefinite 21 = .ok (.isub, 1) := by decide +kernel
theorem dX0_nameIndefinite_22 : decode cX0_nameIndefinite 22 = .ok (.iconst 4, 1) := by decide +kernel
theorem dX0_nameIndefinite_23 : decode cX0_nameIndefinite 23 = .ok (.idiv, 1) := by decide +kernel
theorem dX0_nameIndefinite_24 : decode cX0_nameIndefinite 24 = .ok (.istore_n 2, 1) := by decide +kernel
theorem dX0_nameIndefinite_25 : decode cX0_nameIndefinite 25 = .ok (.aload_n 0, 1) := by decide +kernel
theorem dX0_nameIndefinite_26 : decode cX0_nameIndefinite 26 = .ok (.getfield 173, 3) := by decide +kernel
theorem dX0_nameIndefinite_29 : decode cX0_nameIndefinite 29 = .ok (.iload_n 1, 1) := by decide +kernel
theorem dX0_nameIndefinite_30 : decode cX0_nameIndefinite 30 = .ok (.isub, 1) := by decide +kernel
theorem dX0_nameIndefinite_31 : decode cX0_nameIndefinite 31 = .ok (.iconst 2, 1) := by decide +kernel
theorem dX0_nameIndefinite_32 : decode cX0_nameIndefinite 32 = .ok (.idiv, 1) := by decide +kernel
theorem dX0_nameIndefinite_33 : decode cX0_nameIndefinite 33 = .ok (.iconst 1, 1) := by decide +kernel
theorem dX0_nameIndefinite_34 : decode cX0_nameIndefinite 34 = .ok (.iadd, 1) := by decide +kernel
theorem dX0_nameIndefinite_35 : decode cX0_nameIndefinite 35 = .ok (.istore_n 3, 1) := by decide +kernel
theorem dX0_nameIndefinite_36 : decode cX0_nameIndefinite 36 = .ok (.iload_n 3, 1) := by decide +kernel
theorem dX0_nameIndefinite_37 : decode cX0_nameIndefinite 37 = .ok (.iload_n 3, 1) := by decide +kernel
theorem dX0_nameIndefinite_38 : decode cX0_nameIndefinite 38 = .ok (.imul, 1) := by decide +kernel
theorem dX0_nameIndefinite_39 : decode cX0_nameIndefinite 39 = .ok (.iload_n 2, 1) := by decide +kernel
theorem dX0_nameIndefinite_40 : decode cX0_nameIndefinite 40 = .ok (.if_icmp .gt 24, 3) := by decide +kernel
theorem dX0_nameIndefinite_43 : decode cX0_nameIndefinite 43 = .ok (.iload_n 2, 1) := by decide +kernel
theorem dX0_nameIndefinite_44 : decode cX0_nameIndefinite 44 = .ok (.iload_n 3, 1) := by decide +kernel
theorem dX0_nameIndefinite_45 : decode cX0_nameIndefinite 45 = .ok (.irem, 1) := by decide +kernel
theorem dX0_nameIndefinite_46 : decode cX0_nameIndefinite 46 = .ok (.ifCond .ne 12, 3) := by decide +kernel
theorem dX0_nameIndefinite_49 : decode cX0_nameIndefinite 49 = .ok (.aload_n 0, 1) := by decide +kernel
theorem dX0_nameIndefinite_50 : decode cX0_nameIndefinite 50 = .ok (.iload_n 3, 1) := by decide +kernel
theorem dX0_nameIndefinite_51 : decode cX0_nameIndefinite 51 = .ok (.iload_n 1, 1) := by decide +kernel
theorem dX0_nameIndefinite_52 : decode cX0_nameIndefinite 52 = .ok (.iload_n 2, 1) := by decide +kernel
theorem dX0_nameIndefinite_53 : decode cX0_nameIndefinite 53 = .ok (.iload_n 3, 1) := by decide +kernel
theorem dX0_nameIndefinite_54 : decode cX0_nameIndefinite 54 = .ok (.idiv, 1) := by decide +kernel
theorem dX0_nameIndefinite_55 : decode cX0_nameIndefinite 55 = .ok (.invokevirtual 197, 3) := by decide +kernel
theorem dX0_nameIndefinite_58 : decode cX0_nameIndefinite 58 = .ok (.iinc 3 1, 3) := by decide +kernel
theorem dX0_nameIndefinite_61 : decode cX0_nameIndefinite 61 = .ok (.goto (-25), 3) := by decide +kernel
theorem dX0_nameIndefinite_64 : decode cX0_nameIndefinite 64 = .ok (.iinc 1 2, 3) := by decide +kernel
theorem dX0_nameIndefinite_67 : decode cX0_nameIndefinite 67 = .ok (.goto (-61), 3) := by decide +kernel
theorem dX0_nameIndefinite_70 : decode cX0_nameIndefinite 70 = .ok (.return_, 1) := by decide +kernel
abbrev cX0_become : ByteArray := prog_1_method_20_code
abbrev yX0_become : MethodName := ⟨"ClassGroup", "become", "(I)V"⟩
abbrev wsX0_become : List Cond := .code ⟨"ClassGroup", "become", "(I)V"⟩ prog_1_method_20_code 3 none :: wT
theorem dX0_become_0 : decode cX0_become 0 = .ok (.aload_n 0, 1) := by decide +kernel
theorem dX0_become_1 : decode cX0_become 1 = .ok (.iload_n 1, 1) := by decide +kernel
theorem dX0_become_2 : decode cX0_become 2 = .ok (.putfield 64, 3) := by decide +kernel
theorem dX0_become_5 : decode cX0_become 5 = .ok (.aload_n 0, 1) := by decide +kernel
theorem dX0_become_6 : decode cX0_become 6 = .ok (.iload_n 1, 1) := by decide +kernel
theorem dX0_become_7 : decode cX0_become 7 = .ok (.invokestatic 170, 3) := by decide +kernel
theorem dX0_become_10 : decode cX0_become 10 = .ok (.putfield 173, 3) := by decide +kernel
theorem dX0_become_13 : decode cX0_become 13 = .ok (.aload_n 0, 1) := by decide +kernel
theorem dX0_become_14 : decode cX0_become 14 = .ok (.iconst 0, 1) := by decide +kernel
theorem dX0_become_15 : decode cX0_become 15 = .ok (.putfield 60, 3) := by decide +kernel
theorem dX0_become_18 : decode cX0_become 18 = .ok (.aload_n 0, 1) := by decide +kernel
theorem dX0_become_19 : decode cX0_become 19 = .ok (.iconst 0, 1) := by decide +kernel
theorem dX0_become_20 : decode cX0_become 20 = .ok (.putfield 79, 3) := by decide +kernel
theorem dX0_become_23 : decode cX0_become 23 = .ok (.aload_n 0, 1) := by decide +kernel
theorem dX0_become_24 : decode cX0_become 24 = .ok (.iconst 0, 1) := by decide +kernel
theorem dX0_become_25 : decode cX0_become 25 = .ok (.putfield 176, 3) := by decide +kernel
theorem dX0_become_28 : decode cX0_become 28 = .ok (.iload_n 1, 1) := by decide +kernel
theorem dX0_become_29 : decode cX0_become 29 = .ok (.ifCond .ge 10, 3) := by decide +kernel
theorem dX0_become_32 : decode cX0_become 32 = .ok (.aload_n 0, 1) := by decide +kernel
theorem dX0_become_33 : decode cX0_become 33 = .ok (.invokevirtual 180, 3) := by decide +kernel
theorem dX0_become_36 : decode cX0_become 36 = .ok (.goto 7, 3) := by decide +kernel
theorem dX0_become_39 : decode cX0_become 39 = .ok (.aload_n 0, 1) := by decide +kernel
theorem dX0_become_40 : decode cX0_become 40 = .ok (.invokevirtual 183, 3) := by decide +kernel
theorem dX0_become_43 : decode cX0_become 43 = .ok (.iload_n 1, 1) := by decide +kernel
theorem dX0_become_44 : decode cX0_become 44 = .ok (.iconst 1, 1) := by decide +kernel
theorem dX0_become_45 : decode cX0_become 45 = .ok (.iand, 1) := by decide +kernel
theorem dX0_become_46 : decode cX0_become 46 = .ok (.istore_n 2, 1) := by decide +kernel
theorem dX0_become_47 : decode cX0_become 47 = .ok (.aload_n 0, 1) := by decide +kernel
theorem dX0_become_48 : decode cX0_become 48 = .ok (.getfield 31, 3) := by decide +kernel
theorem dX0_become_51 : decode cX0_become 51 = .ok (.lconst 1, 1) := by decide +kernel
theorem dX0_become_52 : decode cX0_become 52 = .ok (.iload_n 2, 1) := by decide +kernel
theorem dX0_become_53 : decode cX0_become 53 = .ok (.i2l, 1) := by decide +kernel
theorem dX0_become_54 : decode cX0_become 54 = .ok (.iload_n 2, 1) := by decide +kernel
theorem dX0_become_55 : decode cX0_become 55 = .ok (.iload_n 1, 1) := by decide +kernel
theorem dX0_become_56 : decode cX0_become 56 = .ok (.isub, 1) := by decide +kernel
theorem dX0_become_57 : decode cX0_become 57 = .ok (.iconst 4, 1) := by decide +kernel
theorem dX0_become_58 : decode cX0_become 58 = .ok (.idiv, 1) := by decide +kernel
theorem dX0_become_59 : decode cX0_become 59 = .ok (.i2l, 1) := by decide +kernel
theorem dX0_become_60 : decode cX0_become 60 = .ok (.invokevirtual 110, 3) := by decide +kernel
theorem dX0_become_63 : decode cX0_become 63 = .ok (.aload_n 0, 1) := by decide +kernel
theorem dX0_become_64 : decode cX0_become 64 = .ok (.aload_n 0, 1) := by decide +kernel
theorem dX0_become_65 : decode cX0_become 65 = .ok (.getfield 31, 3) := by decide +kernel
theorem dX0_become_68 : decode cX0_become 68 = .ok (.invokevirtual 114, 3) := by decide +kernel
theorem dX0_become_71 : decode cX0_become 71 = .ok (.aload_n 0, 1) := by decide +kernel
theorem dX0_become_72 : decode cX0_become 72 = .ok (.aload_n 0, 1) := by decide +kernel
theorem dX0_become_73 : decode cX0_become 73 = .ok (.aload_n 0, 1) := by decide +kernel
theorem dX0_become_74 : decode cX0_become 74 = .ok (.aload_n 0, 1) := by decide +kernel
theorem dX0_become_75 : decode cX0_become 75 = .ok (.getfield 31, 3) := by decide +kernel
theorem dX0_become_78 : decode cX0_become 78 = .ok (.invokevirtual 118, 3) := by decide +kernel
theorem dX0_become_81 : decode cX0_become 81 = .ok (.invokevirtual 122, 3) := by decide +kernel
theorem dX0_become_84 : decode cX0_become 84 = .ok (.putfield 73, 3) := by decide +kernel
theorem dX0_become_87 : decode cX0_become 87 = .ok (.return_, 1) := by decide +kernel
abbrev cX0_learnOrdersOfPowers : ByteArray := prog_1_method_40_code
abbrev yX0_learnOrdersOfPowers : MethodName := ⟨"ClassGroup", "learnOrdersOfPowers", "(I)V"⟩
abbrev wsX0_learnOrdersOfPowers : List Cond := .code ⟨"ClassGroup", "learnOrdersOfPowers", "(I)V"⟩ prog_1_method_40_code 5 none :: wT
theorem dX0_learnOrdersOfPowers_0 : decode cX0_learnOrdersOfPowers 0 = .ok (.iconst 0, 1) := by decide +kernel
theorem dX0_learnOrdersOfPowers_1 : decode cX0_learnOrdersOfPowers 1 = .ok (.istore_n 2, 1) := by decide +kernel
theorem dX0_learnOrdersOfPowers_2 : decode cX0_learnOrdersOfPowers 2 = .ok (.aload_n 0, 1) := by decide +kernel
theorem dX0_learnOrdersOfPowers_3 : decode cX0_learnOrdersOfPowers 3 = .ok (.getfield 73, 3) := by decide +kernel
theorem dX0_learnOrdersOfPowers_6 : decode cX0_learnOrdersOfPowers 6 = .ok (.istore_n 3, 1) := by decide +kernel
theorem dX0_learnOrdersOfPowers_7 : decode cX0_learnOrdersOfPowers 7 = .ok (.aload_n 0, 1) := by decide +kernel
theorem dX0_learnOrdersOfPowers_8 : decode cX0_learnOrdersOfPowers 8 = .ok (.getfield 25, 3) := by decide +kernel
theorem dX0_learnOrdersOfPowers_11 : decode cX0_learnOrdersOfPowers 11 = .ok (.iload_n 2, 1) := by decide +kernel
theorem dX0_learnOrdersOfPowers_12 : decode cX0_learnOrdersOfPowers 12 = .ok (.iload_n 3, 1) := by decide +kernel
theorem dX0_learnOrdersOfPowers_13 : decode cX0_learnOrdersOfPowers 13 = .ok (.iastore, 1) := by decide +kernel
theorem dX0_learnOrdersOfPowers_14 : decode cX0_learnOrdersOfPowers 14 = .ok (.iinc 2 1, 3) := by decide +kernel
theorem dX0_learnOrdersOfPowers_17 : decode cX0_learnOrdersOfPowers 17 = .ok (.aload_n 0, 1) := by decide +kernel
theorem dX0_learnOrdersOfPowers_18 : decode cX0_learnOrdersOfPowers 18 = .ok (.iload_n 3, 1) := by decide +kernel
theorem dX0_learnOrdersOfPowers_19 : decode cX0_learnOrdersOfPowers 19 = .ok (.iload_n 1, 1) := by decide +kernel
theorem dX0_learnOrdersOfPowers_20 : decode cX0_learnOrdersOfPowers 20 = .ok (.invokevirtual 128, 3) := by decide +kernel
theorem dX0_learnOrdersOfPowers_23 : decode cX0_learnOrdersOfPowers 23 = .ok (.istore_n 3, 1) := by decide +kernel
theorem dX0_learnOrdersOfPowers_24 : decode cX0_learnOrdersOfPowers 24 = .ok (.iload_n 3, 1) := by decide +kernel
theorem dX0_learnOrdersOfPowers_25 : decode cX0_learnOrdersOfPowers 25 = .ok (.aload_n 0, 1) := by decide +kernel
theorem dX0_learnOrdersOfPowers_26 : decode cX0_learnOrdersOfPowers 26 = .ok (.getfield 73, 3) := by decide +kernel
theorem dX0_learnOrdersOfPowers_29 : decode cX0_learnOrdersOfPowers 29 = .ok (.if_icmp .eq 11, 3) := by decide +kernel
theorem dX0_learnOrdersOfPowers_32 : decode cX0_learnOrdersOfPowers 32 = .ok (.iload_n 2, 1) := by decide +kernel
theorem dX0_learnOrdersOfPowers_33 : decode cX0_learnOrdersOfPowers 33 = .ok (.aload_n 0, 1) := by decide +kernel
theorem dX0_learnOrdersOfPowers_34 : decode cX0_learnOrdersOfPowers 34 = .ok (.getfield 60, 3) := by decide +kernel
theorem dX0_learnOrdersOfPowers_37 : decode cX0_learnOrdersOfPowers 37 = .ok (.if_icmp .lt (-30), 3) := by decide +kernel
theorem dX0_learnOrdersOfPowers_40 : decode cX0_learnOrdersOfPowers 40 = .ok (.iconst 0, 1) := by decide +kernel
theorem dX0_learnOrdersOfPowers_41 : decode cX0_learnOrdersOfPowers 41 = .ok (.istore 4, 2) := by decide +kernel
theorem dX0_learnOrdersOfPowers_43 : decode cX0_learnOrdersOfPowers 43 = .ok (.iload 4, 2) := by decide +kernel
theorem dX0_learnOrdersOfPowers_45 : decode cX0_learnOrdersOfPowers 45 = .ok (.iload_n 2, 1) := by decide +kernel
theorem dX0_learnOrdersOfPowers_46 : decode cX0_learnOrdersOfPowers 46 = .ok (.if_icmp .ge 47, 3) := by decide +kernel
theorem dX0_learnOrdersOfPowers_49 : decode cX0_learnOrdersOfPowers 49 = .ok (.aload_n 0, 1) := by decide +kernel
theorem dX0_learnOrdersOfPowers_50 : decode cX0_learnOrdersOfPowers 50 = .ok (.aload_n 0, 1) := by decide +kernel
theorem dX0_learnOrdersOfPowers_51 : decode cX0_learnOrdersOfPowers 51 = .ok (.getfield 25, 3) := by decide +kernel
theorem dX0_learnOrdersOfPowers_54 : decode cX0_learnOrdersOfPowers 54 = .ok (.iload 4, 2) := by decide +kernel
theorem dX0_learnOrdersOfPowers_56 : decode cX0_learnOrdersOfPowers 56 = .ok (.iaload, 1) := by decide +kernel
theorem dX0_learnOrdersOfPowers_57 : decode cX0_learnOrdersOfPowers 57 = .ok (.invokevirtual 82, 3) := by decide +kernel
theorem dX0_learnOrdersOfPowers_60 : decode cX0_learnOrdersOfPowers 60 = .ok (.ifCond .eq 27, 3) := by decide +kernel
theorem dX0_learnOrdersOfPowers_63 : decode cX0_learnOrdersOfPowers 63 = .ok (.aload_n 0, 1) := by decide +kernel
theorem dX0_learnOrdersOfPowers_64 : decode cX0_learnOrdersOfPowers 64 = .ok (.getfield 19, 3) := by decide +kernel
theorem dX0_learnOrdersOfPowers_67 : decode cX0_learnOrdersOfPowers 67 = .ok (.aload_n 0, 1) := by decide +kernel
theorem dX0_learnOrdersOfPowers_68 : decode cX0_learnOrdersOfPowers 68 = .ok (.getfield 25, 3) := by decide +kernel
theorem dX0_learnOrdersOfPowers_71 : decode cX0_learnOrdersOfPowers 71 = .ok (.iload 4, 2) := by decide +kernel
theorem dX0_learnOrdersOfPowers_73 : decode cX0_learnOrdersOfPowers 73 = .ok (.iaload, 1) := by decide +kernel
theorem dX0_learnOrdersOfPowers_74 : decode cX0_learnOrdersOfPowers 74 = .ok (.iload_n 2, 1) := by decide +kernel
theorem dX0_learnOrdersOfPowers_75 : decode cX0_learnOrdersOfPowers 75 = .ok (.iconst 1, 1) := by decide +kernel
theorem dX0_learnOrdersOfPowers_76 : decode cX0_learnOrdersOfPowers 76 = .ok (.iload_n 2, 1) := by decide +kernel
theorem dX0_learnOrdersOfPowers_77 : decode cX0_learnOrdersOfPowers 77 = .ok (.iload 4, 2) := by decide +kernel
theorem dX0_learnOrdersOfPowers_79 : decode cX0_learnOrdersOfPowers 79 = .ok (.invokestatic 159, 3) := by decide +kernel
theorem dX0_learnOrdersOfPowers_82 : decode cX0_learnOrdersOfPowers 82 = .ok (.invokestatic 258, 3) := by decide +kernel
theorem dX0_learnOrdersOfPowers_85 : decode cX0_learnOrdersOfPowers 85 = .ok (.idiv, 1) := by decide +kernel
theorem dX0_learnOrdersOfPowers_86 : decode cX0_learnOrdersOfPowers 86 = .ok (.iastore, 1) := by decide +kernel
theorem dX0_learnOrdersOfPowers_87 : decode cX0_learnOrdersOfPowers 87 = .ok (.iinc 4 1, 3) := by decide +kernel
theorem dX0_learnOrdersOfPowers_90 : decode cX0_learnOrdersOfPowers 90 = .ok (.goto (-47), 3) := by decide +kernel
theorem dX0_learnOrdersOfPowers_93 : decode cX0_learnOrdersOfPowers 93 = .ok (.aload_n 0, 1) := by decide +kernel
theorem dX0_learnOrdersOfPowers_94 : decode cX0_learnOrdersOfPowers 94 = .ok (.aload_n 0, 1) := by decide +kernel
theorem dX0_learnOrdersOfPowers_95 : decode cX0_learnOrdersOfPowers 95 = .ok (.getfield 76, 3) := by decide +kernel
theorem dX0_learnOrdersOfPowers_98 : decode cX0_learnOrdersOfPowers 98 = .ok (.iload_n 2, 1) := by decide +kernel
theorem dX0_learnOrdersOfPowers_99 : decode cX0_learnOrdersOfPowers 99 = .ok (.invokestatic 258, 3) := by decide +kernel
theorem dX0_learnOrdersOfPowers_102 : decode cX0_learnOrdersOfPowers 102 = .ok (.putfield 76, 3) := by decide +kernel
theorem dX0_learnOrdersOfPowers_105 : decode cX0_learnOrdersOfPowers 105 = .ok (.return_, 1) := by decide +kernel
abbrev cX0_learnOrders : ByteArray := prog_1_method_39_code
abbrev yX0_learnOrders : MethodName := ⟨"ClassGroup", "learnOrders", "()V"⟩
abbrev wsX0_learnOrders : List Cond := .code ⟨"ClassGroup", "learnOrders", "()V"⟩ prog_1_method_39_code 2 none :: wT
theorem dX0_learnOrders_0 : decode cX0_learnOrders 0 = .ok (.aload_n 0, 1) := by decide +kernel
theorem dX0_learnOrders_1 : decode cX0_learnOrders 1 = .ok (.getfield 19, 3) := by decide +kernel
theorem dX0_learnOrders_4 : decode cX0_learnOrders 4 = .ok (.iconst 0, 1) := by decide +kernel
theorem dX0_learnOrders_5 : decode cX0_learnOrders 5 = .ok (.invokestatic 243, 3) := by decide +kernel
theorem dX0_learnOrders_8 : decode cX0_learnOrders 8 = .ok (.aload_n 0, 1) := by decide +kernel
theorem dX0_learnOrders_9 : decode cX0_learnOrders 9 = .ok (.iconst 1, 1) := by decide +kernel
theorem dX0_learnOrders_10 : decode cX0_learnOrders 10 = .ok (.putfield 76, 3) := by decide +kernel
theorem dX0_learnOrders_13 : decode cX0_learnOrders 13 = .ok (.iconst 0, 1) := by decide +kernel
theorem dX0_learnOrders_14 : decode cX0_learnOrders 14 = .ok (.istore_n 1, 1) := by decide +kernel
theorem dX0_learnOrders_15 : decode cX0_learnOrders 15 = .ok (.iload_n 1, 1) := by decide +kernel
theorem dX0_learnOrders_16 : decode cX0_learnOrders 16 = .ok (.aload_n 0, 1) := by decide +kernel
theorem dX0_learnOrders_17 : decode cX0_learnOrders 17 = .ok (.getfield 60, 3) := by decide +kernel
theorem dX0_learnOrders_20 : decode cX0_learnOrders 20 = .ok (.if_icmp .ge 23, 3) := by decide +kernel
theorem dX0_learnOrders_23 : decode cX0_learnOrders 23 = .ok (.aload_n 0, 1) := by decide +kernel
theorem dX0_learnOrders_24 : decode cX0_learnOrders 24 = .ok (.getfield 19, 3) := by decide +kernel
theorem dX0_learnOrders_27 : decode cX0_learnOrders 27 = .ok (.iload_n 1, 1) := by decide +kernel
theorem dX0_learnOrders_28 : decode cX0_learnOrders 28 = .ok (.iaload, 1) := by decide +kernel
theorem dX0_learnOrders_29 : decode cX0_learnOrders 29 = .ok (.ifCond .ne 8, 3) := by decide +kernel
theorem dX0_learnOrders_32 : decode cX0_learnOrders 32 = .ok (.aload_n 0, 1) := by decide +kernel
theorem dX0_learnOrders_33 : decode cX0_learnOrders 33 = .ok (.iload_n 1, 1) := by decide +kernel
theorem dX0_learnOrders_34 : decode cX0_learnOrders 34 = .ok (.invokevirtual 255, 3) := by decide +kernel
theorem dX0_learnOrders_37 : decode cX0_learnOrders 37 = .ok (.iinc 1 1, 3) := by decide +kernel
theorem dX0_learnOrders_40 : decode cX0_learnOrders 40 = .ok (.goto (-25), 3) := by decide +kernel
theorem dX0_learnOrders_43 : decode cX0_learnOrders 43 = .ok (.return_, 1) := by decide +kernel
abbrev cX0_isIndependent : ByteArray := prog_1_method_42_code
abbrev yX0_isIndependent : MethodName := ⟨"ClassGroup", "isIndependent", "(I)Z"⟩
abbrev wsX0_isIndependent : List Cond := .code ⟨"ClassGroup", "isIndependent", "(I)Z"⟩ prog_1_method_42_code 4 (some .boolean) :: wT
theorem dX0_isIndependent_0 : decode cX0_isIndependent 0 = .ok (.iload_n 1, 1) := by decide +kernel
theorem dX0_isIndependent_1 : decode cX0_isIndependent 1 = .ok (.istore_n 2, 1) := by decide +kernel
theorem dX0_isIndependent_2 : decode cX0_isIndependent 2 = .ok (.iconst 1, 1) := by decide +kernel
theorem dX0_isIndependent_3 : decode cX0_isIndependent 3 = .ok (.istore_n 3, 1) := by decide +kernel
theorem dX0_isIndependent_4 : decode cX0_isIndependent 4 = .ok (.iload_n 3, 1) := by decide +kernel
theorem dX0_isIndependent_5 : decode cX0_isIndependent 5 = .ok (.aload_n 0, 1) := by decide +kernel
theorem dX0_isIndependent_6 : decode cX0_isIndependent 6 = .ok (.getfield 19, 3) := by decide +kernel
theorem dX0_isIndependent_9 : decode cX0_isIndependent 9 = .ok (.iload_n 1, 1) := by decide +kernel
theorem dX0_isIndependent_10 : decode cX0_isIndependent 10 = .ok (.iaload, 1) := by decide +kernel
theorem dX0_isIndependent_11 : decode cX0_isIndependent 11 = .ok (.if_icmp .ge 35, 3) := by decide +kernel
theorem dX0_isIndependent_14 : decode cX0_isIndependent 14 = .ok (.aload_n 0, 1) := by decide +kernel
theorem dX0_isIndependent_15 : decode cX0_isIndependent 15 = .ok (.iload_n 2, 1) := by decide +kernel
theorem dX0_isIndependent_16 : decode cX0_isIndependent 16 = .ok (.invokevirtual 82, 3) := by decide +kernel
theorem dX0_isIndependent_19 : decode cX0_isIndependent 19 = .ok (.ifCond .eq 12, 3) := by decide +kernel
theorem dX0_isIndependent_22 : decode cX0_isIndependent 22 = .ok (.aload_n 0, 1) := by decide +kernel
theorem dX0_isIndependent_23 : decode cX0_isIndependent 23 = .ok (.getfield 22, 3) := by decide +kernel
theorem dX0_isIndependent_26 : decode cX0_isIndependent 26 = .ok (.iload_n 2, 1) := by decide +kernel
theorem dX0_isIndependent_27 : decode cX0_isIndependent 27 = .ok (.iaload, 1) := by decide +kernel
theorem dX0_isIndependent_28 : decode cX0_isIndependent 28 = .ok (.ifCond .lt 5, 3) := by decide +kernel
theorem dX0_isIndependent_31 : decode cX0_isIndependent 31 = .ok (.iconst 0, 1) := by decide +kernel
theorem dX0_isIndependent_32 : decode cX0_isIndependent 32 = .ok (.ireturn, 1) := by decide +kernel
theorem dX0_isIndependent_33 : decode cX0_isIndependent 33 = .ok (.aload_n 0, 1) := by decide +kernel
theorem dX0_isIndependent_34 : decode cX0_isIndependent 34 = .ok (.iload_n 2, 1) := by decide +kernel
theorem dX0_isIndependent_35 : decode cX0_isIndependent 35 = .ok (.iload_n 1, 1) := by decide +kernel
theorem dX0_isIndependent_36 : decode cX0_isIndependent 36 = .ok (.invokevirtual 128, 3) := by decide +kernel
theorem dX0_isIndependent_39 : decode cX0_isIndependent 39 = .ok (.istore_n 2, 1) := by decide +kernel
theorem dX0_isIndependent_40 : decode cX0_isIndependent 40 = .ok (.iinc 3 1, 3) := by decide +kernel
theorem dX0_isIndependent_43 : decode cX0_isIndependent 43 = .ok (.goto (-39), 3) := by decide +kernel
theorem dX0_isIndependent_46 : decode cX0_isIndependent 46 = .ok (.iconst 1, 1) := by decide +kernel
theorem dX0_isIndependent_47 : decode cX0_isIndependent 47 = .ok (.ireturn, 1) := by decide +kernel
abbrev cX0_nextGenerator : ByteArray := prog_1_method_41_code
abbrev yX0_nextGenerator : MethodName := ⟨"ClassGroup", "nextGenerator", "(I)I"⟩
abbrev wsX0_nextGenerator : List Cond := .code ⟨"ClassGroup", "nextGenerator", "(I)I"⟩ prog_1_method_41_code 5 (some .int) :: wT
theorem dX0_nextGenerator_0 : decode cX0_nextGenerator 0 = .ok (.iload_n 1, 1) := by decide +kernel
theorem dX0_nextGenerator_1 : decode cX0_nextGenerator 1 = .ok (.ifCond .gt 5, 3) := by decide +kernel
theorem dX0_nextGenerator_4 : decode cX0_nextGenerator 4 = .ok (.iconst (-1), 1) := by decide +kernel
theorem dX0_nextGenerator_5 : decode cX0_nextGenerator 5 = .ok (.ireturn, 1) := by decide +kernel
theorem dX0_nextGenerator_6 : decode cX0_nextGenerator 6 = .ok (.aload_n 0, 1) := by decide +kernel
theorem dX0_nextGenerator_7 : decode cX0_nextGenerator 7 = .ok (.getfield 60, 3) := by decide +kernel
theorem dX0_nextGenerator_10 : decode cX0_nextGenerator 10 = .ok (.iload_n 1, 1) := by decide +kernel
theorem dX0_nextGenerator_11 : decode cX0_nextGenerator 11 = .ok (.idiv, 1) := by decide +kernel
theorem dX0_nextGenerator_12 : decode cX0_nextGenerator 12 = .ok (.istore_n 2, 1) := by decide +kernel
theorem dX0_nextGenerator_13 : decode cX0_nextGenerator 13 = .ok (.iload_n 2, 1) := by decide +kernel
theorem dX0_nextGenerator_14 : decode cX0_nextGenerator 14 = .ok (.istore_n 3, 1) := by decide +kernel
theorem dX0_nextGenerator_15 : decode cX0_nextGenerator 15 = .ok (.iload_n 3, 1) := by decide +kernel
theorem dX0_nextGenerator_16 : decode cX0_nextGenerator 16 = .ok (.iconst 1, 1) := by decide +kernel
theorem dX0_nextGenerator_17 : decode cX0_nextGenerator 17 = .ok (.if_icmp .le 56, 3) := by decide +kernel
theorem dX0_nextGenerator_20 : decode cX0_nextGenerator 20 = .ok (.iconst 0, 1) := by decide +kernel
theorem dX0_nextGenerator_21 : decode cX0_nextGenerator 21 = .ok (.istore 4, 2) := by decide +kernel
theorem dX0_nextGenerator_23 : decode cX0_nextGenerator 23 = .ok (.iload 4, 2) := by decide +kernel
theorem dX0_nextGenerator_25 : decode cX0_nextGenerator 25 = .ok (.aload_n 0, 1) := by decide +kernel
theorem dX0_nextGenerator_26 : decode cX0_nextGenerator 26 = .ok (.getfield 60, 3) := by decide +kernel
theorem dX0_nextGenerator_29 : decode cX0_nextGenerator 29 = .ok (.if_icmp .ge 38, 3) := by decide +kernel
theorem dX0_nextGenerator_32 : decode cX0_nextGenerator 32 = .ok (.iload_n 2, 1) := by decide +kernel
theorem dX0_nextGenerator_33 : decode cX0_nextGenerator 33 = .ok (.iload_n 3, 1) := by decide +kernel
theorem dX0_nextGenerator_34 : decode cX0_nextGenerator 34 = .ok (.irem, 1) := by decide +kernel
theorem dX0_nextGenerator_35 : decode cX0_nextGenerator 35 = .ok (.ifCond .ne 32, 3) := by decide +kernel
theorem dX0_nextGenerator_38 : decode cX0_nextGenerator 38 = .ok (.aload_n 0, 1) := by decide +kernel
theorem dX0_nextGenerator_39 : decode cX0_nextGenerator 39 = .ok (.getfield 19, 3) := by decide +kernel
theorem dX0_nextGenerator_42 : decode cX0_nextGenerator 42 = .ok (.iload 4, 2) := by decide +kernel
theorem dX0_nextGenerator_44 : decode cX0_nextGenerator 44 = .ok (.iaload, 1) := by decide +kernel
theorem dX0_nextGenerator_45 : decode cX0_nextGenerator 45 = .ok (.iload_n 3, 1) := by decide +kernel
theorem dX0_nextGenerator_46 : decode cX0_nextGenerator 46 = .ok (.if_icmp .ne 15, 3) := by decide +kernel
theorem dX0_nextGenerator_49 : decode cX0_nextGenerator 49 = .ok (.aload_n 0, 1) := by decide +kernel
theorem dX0_nextGenerator_50 : decode cX0_nextGenerator 50 = .ok (.iload 4, 2) := by decide +kernel
theorem dX0_nextGenerator_52 : decode cX0_nextGenerator 52 = .ok (.invokevirtual 261, 3) := by decide +kernel
theorem dX0_nextGenerator_55 : decode cX0_nextGenerator 55 = .ok (.ifCond .eq 6, 3) := by decide +kernel
theorem dX0_nextGenerator_58 : decode cX0_nextGenerator 58 = .ok (.iload 4, 2) := by decide +kernel
theorem dX0_nextGenerator_60 : decode cX0_nextGenerator 60 = .ok (.ireturn, 1) := by decide +kernel
theorem dX0_nextGenerator_61 : decode cX0_nextGenerator 61 = .ok (.iinc 4 1, 3) := by decide +kernel
theorem dX0_nextGenerator_64 : decode cX0_nextGenerator 64 = .ok (.goto (-41), 3) := by decide +kernel
theorem dX0_nextGenerator_67 : decode cX0_nextGenerator 67 = .ok (.iinc 3 (-1), 3) := by decide +kernel
theorem dX0_nextGenerator_70 : decode cX0_nextGenerator 70 = .ok (.goto (-55), 3) := by decide +kernel
theorem dX0_nextGenerator_73 : decode cX0_nextGenerator 73 = .ok (.iconst (-1), 1) := by decide +kernel
theorem dX0_nextGenerator_74 : decode cX0_nextGenerator 74 = .ok (.ireturn, 1) := by decide +kernel
abbrev cX0_reachWith : ByteArray := prog_1_method_43_code
abbrev yX0_reachWith : MethodName := ⟨"ClassGroup", "reachWith", "(II)I"⟩
abbrev wsX0_reachWith : List Cond := .code ⟨"ClassGroup", "reachWith", "(II)I"⟩ prog_1_method_43_code 6 (some .int) :: wT
theorem dX0_reachWith_0 : decode cX0_reachWith 0 = .ok (.iload_n 2, 1) := by decide +kernel
theorem dX0_reachWith_1 : decode cX0_reachWith 1 = .ok (.aload_n 0, 1) := by decide +kernel
theorem dX0_reachWith_2 : decode cX0_reachWith 2 = .ok (.getfield 19, 3) := by decide +kernel
theorem dX0_reachWith_5 : decode cX0_reachWith 5 = .ok (.iload_n 1, 1) := by decide +kernel
theorem dX0_reachWith_6 : decode cX0_reachWith 6 = .ok (.iaload, 1) := by decide +kernel
theorem dX0_reachWith_7 : decode cX0_reachWith 7 = .ok (.imul, 1) := by decide +kernel
theorem dX0_reachWith_8 : decode cX0_reachWith 8 = .ok (.aload_n 0, 1) := by decide +kernel
theorem dX0_reachWith_9 : decode cX0_reachWith 9 = .ok (.getfield 60, 3) := by decide +kernel
theorem dX0_reachWith_12 : decode cX0_reachWith 12 = .ok (.invokestatic 224, 3) := by decide +kernel
theorem dX0_reachWith_15 : decode cX0_reachWith 15 = .ok (.istore_n 3, 1) := by decide +kernel
theorem dX0_reachWith_16 : decode cX0_reachWith 16 = .ok (.iload_n 2, 1) := by decide +kernel
theorem dX0_reachWith_17 : decode cX0_reachWith 17 = .ok (.istore 4, 2) := by decide +kernel
theorem dX0_reachWith_19 : decode cX0_reachWith 19 = .ok (.iload 4, 2) := by decide +kernel
theorem dX0_reachWith_21 : decode cX0_reachWith 21 = .ok (.iload_n 3, 1) := by decide +kernel
theorem dX0_reachWith_22 : decode cX0_reachWith 22 = .ok (.if_icmp .ge 52, 3) := by decide +kernel
theorem dX0_reachWith_25 : decode cX0_reachWith 25 = .ok (.aload_n 0, 1) := by decide +kernel
theorem dX0_reachWith_26 : decode cX0_reachWith 26 = .ok (.aload_n 0, 1) := by decide +kernel
theorem dX0_reachWith_27 : decode cX0_reachWith 27 = .ok (.getfield 25, 3) := by decide +kernel
theorem dX0_reachWith_30 : decode cX0_reachWith 30 = .ok (.iload 4, 2) := by decide +kernel
theorem dX0_reachWith_32 : decode cX0_reachWith 32 = .ok (.iload_n 2, 1) := by decide +kernel
theorem dX0_reachWith_33 : decode cX0_reachWith 33 = .ok (.isub, 1) := by decide +kernel
theorem dX0_reachWith_34 : decode cX0_reachWith 34 = .ok (.iaload, 1) := by decide +kernel
theorem dX0_reachWith_35 : decode cX0_reachWith 35 = .ok (.iload_n 1, 1) := by decide +kernel
theorem dX0_reachWith_36 : decode cX0_reachWith 36 = .ok (.invokevirtual 128, 3) := by decide +kernel
theorem dX0_reachWith_39 : decode cX0_reachWith 39 = .ok (.istore 5, 2) := by decide +kernel
theorem dX0_reachWith_41 : decode cX0_reachWith 41 = .ok (.aload_n 0, 1) := by decide +kernel
theorem dX0_reachWith_42 : decode cX0_reachWith 42 = .ok (.getfield 25, 3) := by decide +kernel
theorem dX0_reachWith_45 : decode cX0_reachWith 45 = .ok (.iload 4, 2) := by decide +kernel
theorem dX0_reachWith_47 : decode cX0_reachWith 47 = .ok (.iload 5, 2) := by decide +kernel
theorem dX0_reachWith_49 : decode cX0_reachWith 49 = .ok (.iastore, 1) := by decide +kernel
theorem dX0_reachWith_50 : decode cX0_reachWith 50 = .ok (.aload_n 0, 1) := by decide +kernel
theorem dX0_reachWith_51 : decode cX0_reachWith 51 = .ok (.iload 5, 2) := by decide +kernel
theorem dX0_reachWith_53 : decode cX0_reachWith 53 = .ok (.invokevirtual 82, 3) := by decide +kernel
theorem dX0_reachWith_56 : decode cX0_reachWith 56 = .ok (.ifCond .eq 12, 3) := by decide +kernel
theorem dX0_reachWith_59 : decode cX0_reachWith 59 = .ok (.aload_n 0, 1) := by decide +kernel
theorem dX0_reachWith_60 : decode cX0_reachWith 60 = .ok (.getfield 22, 3) := by decide +kernel
theorem dX0_reachWith_63 : decode cX0_reachWith 63 = .ok (.iload 5, 2) := by decide +kernel
theorem dX0_reachWith_65 : decode cX0_reachWith 65 = .ok (.iload 4, 2) := by decide +kernel
theorem dX0_reachWith_67 : decode cX0_reachWith 67 = .ok (.iastore, 1) := by decide +kernel
theorem dX0_reachWith_68 : decode cX0_reachWith 68 = .ok (.iinc 4 1, 3) := by decide +kernel
theorem dX0_reachWith_71 : decode cX0_reachWith 71 = .ok (.goto (-52), 3) := by decide +kernel
theorem dX0_reachWith_74 : decode cX0_reachWith 74 = .ok (.iload_n 3, 1) := by decide +kernel
theorem dX0_reachWith_75 : decode cX0_reachWith 75 = .ok (.ireturn, 1) := by decide +kernel
