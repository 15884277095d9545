abbrev cX0_isCoefficient : ByteArray := prog_1_method_15_code
abbrev yX0_isCoefficient : MethodName := ⟨"ClassGroup", "isCoefficient", "(I)Z"⟩
abbrev wsX0_isCoefficient : List Cond := .code ⟨"ClassGroup", "isCoefficient", "(I)Z"⟩ prog_1_method_15_code 1 (some .boolean) :: wT
theorem dX0_isCoefficient_0 : decode cX0_isCoefficient 0 = .ok (.iload_n 0, 1) := by decide +kernel
theorem dX0_isCoefficient_1 : decode cX0_isCoefficient 1 = .ok (.ldc 157, 2) := by decide +kernel
theorem dX0_isCoefficient_3 : decode cX0_isCoefficient 3 = .ok (.if_icmp .lt 13, 3) := by decide +kernel
theorem dX0_isCoefficient_6 : decode cX0_isCoefficient 6 = .ok (.iload_n 0, 1) := by decide +kernel
theorem dX0_isCoefficient_7 : decode cX0_isCoefficient 7 = .ok (.ldc 158, 2) := by decide +kernel
theorem dX0_isCoefficient_9 : decode cX0_isCoefficient 9 = .ok (.if_icmp .gt 7, 3) := by decide +kernel
theorem dX0_isCoefficient_12 : decode cX0_isCoefficient 12 = .ok (.iconst 1, 1) := by decide +kernel
theorem dX0_isCoefficient_13 : decode cX0_isCoefficient 13 = .ok (.goto 4, 3) := by decide +kernel
theorem dX0_isCoefficient_16 : decode cX0_isCoefficient 16 = .ok (.iconst 0, 1) := by decide +kernel
theorem dX0_isCoefficient_17 : decode cX0_isCoefficient 17 = .ok (.ireturn, 1) := by decide +kernel
abbrev cX0_greatestDivisor : ByteArray := prog_1_method_17_code
abbrev yX0_greatestDivisor : MethodName := ⟨"ClassGroup", "greatestDivisor", "(II)I"⟩
abbrev wsX0_greatestDivisor : List Cond := .code ⟨"ClassGroup", "greatestDivisor", "(II)I"⟩ prog_1_method_17_code 6 (some .int) :: wT
theorem dX0_greatestDivisor_0 : decode cX0_greatestDivisor 0 = .ok (.iload_n 0, 1) := by decide +kernel
theorem dX0_greatestDivisor_1 : decode cX0_greatestDivisor 1 = .ok (.invokestatic 162, 3) := by decide +kernel
theorem dX0_greatestDivisor_4 : decode cX0_greatestDivisor 4 = .ok (.istore_n 2, 1) := by decide +kernel
theorem dX0_greatestDivisor_5 : decode cX0_greatestDivisor 5 = .ok (.iload_n 1, 1) := by decide +kernel
theorem dX0_greatestDivisor_6 : decode cX0_greatestDivisor 6 = .ok (.invokestatic 162, 3) := by decide +kernel
theorem dX0_greatestDivisor_9 : decode cX0_greatestDivisor 9 = .ok (.istore_n 3, 1) := by decide +kernel
theorem dX0_greatestDivisor_10 : decode cX0_greatestDivisor 10 = .ok (.iconst 0, 1) := by decide +kernel
theorem dX0_greatestDivisor_11 : decode cX0_greatestDivisor 11 = .ok (.istore 4, 2) := by decide +kernel
theorem dX0_greatestDivisor_13 : decode cX0_greatestDivisor 13 = .ok (.iload 4, 2) := by decide +kernel
theorem dX0_greatestDivisor_15 : decode cX0_greatestDivisor 15 = .ok (.ldc 164, 2) := by decide +kernel
theorem dX0_greatestDivisor_17 : decode cX0_greatestDivisor 17 = .ok (.if_icmp .ge 23, 3) := by decide +kernel
theorem dX0_greatestDivisor_20 : decode cX0_greatestDivisor 20 = .ok (.iload_n 3, 1) := by decide +kernel
theorem dX0_greatestDivisor_21 : decode cX0_greatestDivisor 21 = .ok (.ifCond .eq 19, 3) := by decide +kernel
theorem dX0_greatestDivisor_24 : decode cX0_greatestDivisor 24 = .ok (.iload_n 2, 1) := by decide +kernel
theorem dX0_greatestDivisor_25 : decode cX0_greatestDivisor 25 = .ok (.iload_n 3, 1) := by decide +kernel
theorem dX0_greatestDivisor_26 : decode cX0_greatestDivisor 26 = .ok (.irem, 1) := by decide +kernel
theorem dX0_greatestDivisor_27 : decode cX0_greatestDivisor 27 = .ok (.istore 5, 2) := by decide +kernel
theorem dX0_greatestDivisor_29 : decode cX0_greatestDivisor 29 = .ok (.iload_n 3, 1) := by decide +kernel
theorem dX0_greatestDivisor_30 : decode cX0_greatestDivisor 30 = .ok (.istore_n 2, 1) := by decide +kernel
theorem dX0_greatestDivisor_31 : decode cX0_greatestDivisor 31 = .ok (.iload 5, 2) := by decide +kernel
theorem dX0_greatestDivisor_33 : decode cX0_greatestDivisor 33 = .ok (.istore_n 3, 1) := by decide +kernel
theorem dX0_greatestDivisor_34 : decode cX0_greatestDivisor 34 = .ok (.iinc 4 1, 3) := by decide +kernel
theorem dX0_greatestDivisor_37 : decode cX0_greatestDivisor 37 = .ok (.goto (-24), 3) := by decide +kernel
theorem dX0_greatestDivisor_40 : decode cX0_greatestDivisor 40 = .ok (.iload_n 2, 1) := by decide +kernel
theorem dX0_greatestDivisor_41 : decode cX0_greatestDivisor 41 = .ok (.ireturn, 1) := by decide +kernel
abbrev cX0_isPrimitive : ByteArray := prog_1_method_16_code
abbrev yX0_isPrimitive : MethodName := ⟨"ClassGroup", "isPrimitive", "(III)Z"⟩
abbrev wsX0_isPrimitive : List Cond := .code ⟨"ClassGroup", "isPrimitive", "(III)Z"⟩ prog_1_method_16_code 3 (some .boolean) :: wT
theorem dX0_isPrimitive_0 : decode cX0_isPrimitive 0 = .ok (.iload_n 0, 1) := by decide +kernel
theorem dX0_isPrimitive_1 : decode cX0_isPrimitive 1 = .ok (.iload_n 1, 1) := by decide +kernel
theorem dX0_isPrimitive_2 : decode cX0_isPrimitive 2 = .ok (.invokestatic 159, 3) := by decide +kernel
theorem dX0_isPrimitive_5 : decode cX0_isPrimitive 5 = .ok (.iload_n 2, 1) := by decide +kernel
theorem dX0_isPrimitive_6 : decode cX0_isPrimitive 6 = .ok (.invokestatic 159, 3) := by decide +kernel
theorem dX0_isPrimitive_9 : decode cX0_isPrimitive 9 = .ok (.iconst 1, 1) := by decide +kernel
theorem dX0_isPrimitive_10 : decode cX0_isPrimitive 10 = .ok (.if_icmp .ne 7, 3) := by decide +kernel
theorem dX0_isPrimitive_13 : decode cX0_isPrimitive 13 = .ok (.iconst 1, 1) := by decide +kernel
theorem dX0_isPrimitive_14 : decode cX0_isPrimitive 14 = .ok (.goto 4, 3) := by decide +kernel
theorem dX0_isPrimitive_17 : decode cX0_isPrimitive 17 = .ok (.iconst 0, 1) := by decide +kernel
theorem dX0_isPrimitive_18 : decode cX0_isPrimitive 18 = .ok (.ireturn, 1) := by decide +kernel
abbrev cX0_rootOf : ByteArray := prog_1_method_19_code
abbrev yX0_rootOf : MethodName := ⟨"ClassGroup", "rootOf", "(I)I"⟩
abbrev wsX0_rootOf : List Cond := .code ⟨"ClassGroup", "rootOf", "(I)I"⟩ prog_1_method_19_code 3 (some .int) :: wT
theorem dX0_rootOf_0 : decode cX0_rootOf 0 = .ok (.iconst 0, 1) := by decide +kernel
theorem dX0_rootOf_1 : decode cX0_rootOf 1 = .ok (.istore_n 1, 1) := by decide +kernel
theorem dX0_rootOf_2 : decode cX0_rootOf 2 = .ok (.sipush 1024, 3) := by decide +kernel
theorem dX0_rootOf_5 : decode cX0_rootOf 5 = .ok (.istore_n 2, 1) := by decide +kernel
theorem dX0_rootOf_6 : decode cX0_rootOf 6 = .ok (.iload_n 2, 1) := by decide +kernel
theorem dX0_rootOf_7 : decode cX0_rootOf 7 = .ok (.ifCond .le 25, 3) := by decide +kernel
theorem dX0_rootOf_10 : decode cX0_rootOf 10 = .ok (.iload_n 1, 1) := by decide +kernel
theorem dX0_rootOf_11 : decode cX0_rootOf 11 = .ok (.iload_n 2, 1) := by decide +kernel
theorem dX0_rootOf_12 : decode cX0_rootOf 12 = .ok (.iadd, 1) := by decide +kernel
theorem dX0_rootOf_13 : decode cX0_rootOf 13 = .ok (.iload_n 1, 1) := by decide +kernel
theorem dX0_rootOf_14 : decode cX0_rootOf 14 = .ok (.iload_n 2, 1) := by decide +kernel
theorem dX0_rootOf_15 : decode cX0_rootOf 15 = .ok (.iadd, 1) := by decide +kernel
theorem dX0_rootOf_16 : decode cX0_rootOf 16 = .ok (.imul, 1) := by decide +kernel
theorem dX0_rootOf_17 : decode cX0_rootOf 17 = .ok (.iload_n 0, 1) := by decide +kernel
theorem dX0_rootOf_18 : decode cX0_rootOf 18 = .ok (.if_icmp .gt 7, 3) := by decide +kernel
theorem dX0_rootOf_21 : decode cX0_rootOf 21 = .ok (.iload_n 1, 1) := by decide +kernel
theorem dX0_rootOf_22 : decode cX0_rootOf 22 = .ok (.iload_n 2, 1) := by decide +kernel
theorem dX0_rootOf_23 : decode cX0_rootOf 23 = .ok (.iadd, 1) := by decide +kernel
theorem dX0_rootOf_24 : decode cX0_rootOf 24 = .ok (.istore_n 1, 1) := by decide +kernel
theorem dX0_rootOf_25 : decode cX0_rootOf 25 = .ok (.iload_n 2, 1) := by decide +kernel
theorem dX0_rootOf_26 : decode cX0_rootOf 26 = .ok (.iconst 1, 1) := by decide +kernel
theorem dX0_rootOf_27 : decode cX0_rootOf 27 = .ok (.ishr, 1) := by decide +kernel
theorem dX0_rootOf_28 : decode cX0_rootOf 28 = .ok (.istore_n 2, 1) := by decide +kernel
theorem dX0_rootOf_29 : decode cX0_rootOf 29 = .ok (.goto (-23), 3) := by decide +kernel
theorem dX0_rootOf_32 : decode cX0_rootOf 32 = .ok (.iload_n 1, 1) := by decide +kernel
theorem dX0_rootOf_33 : decode cX0_rootOf 33 = .ok (.ireturn, 1) := by decide +kernel
abbrev cX0_isClass : ByteArray := prog_1_method_12_code
abbrev yX0_isClass : MethodName := ⟨"ClassGroup", "isClass", "(I)Z"⟩
abbrev wsX0_isClass : List Cond := .code ⟨"ClassGroup", "isClass", "(I)Z"⟩ prog_1_method_12_code 2 (some .boolean) :: wT
theorem dX0_isClass_0 : decode cX0_isClass 0 = .ok (.iload_n 1, 1) := by decide +kernel
theorem dX0_isClass_1 : decode cX0_isClass 1 = .ok (.ifCond .lt 15, 3) := by decide +kernel
theorem dX0_isClass_4 : decode cX0_isClass 4 = .ok (.iload_n 1, 1) := by decide +kernel
theorem dX0_isClass_5 : decode cX0_isClass 5 = .ok (.aload_n 0, 1) := by decide +kernel
theorem dX0_isClass_6 : decode cX0_isClass 6 = .ok (.getfield 60, 3) := by decide +kernel
theorem dX0_isClass_9 : decode cX0_isClass 9 = .ok (.if_icmp .ge 7, 3) := by decide +kernel
theorem dX0_isClass_12 : decode cX0_isClass 12 = .ok (.iconst 1, 1) := by decide +kernel
theorem dX0_isClass_13 : decode cX0_isClass 13 = .ok (.goto 4, 3) := by decide +kernel
theorem dX0_isClass_16 : decode cX0_isClass 16 = .ok (.iconst 0, 1) := by decide +kernel
theorem dX0_isClass_17 : decode cX0_isClass 17 = .ok (.ireturn, 1) := by decide +kernel
abbrev cX0_isGenerator : ByteArray := prog_1_method_13_code
abbrev yX0_isGenerator : MethodName := ⟨"ClassGroup", "isGenerator", "(I)Z"⟩
abbrev wsX0_isGenerator : List Cond := .code ⟨"ClassGroup", "isGenerator", "(I)Z"⟩ prog_1_method_13_code 2 (some .boolean) :: wT
theorem dX0_isGenerator_0 : decode cX0_isGenerator 0 = .ok (.iload_n 1, 1) := by decide +kernel
theorem dX0_isGenerator_1 : decode cX0_isGenerator 1 = .ok (.ifCond .lt 15, 3) := by decide +kernel
theorem dX0_isGenerator_4 : decode cX0_isGenerator 4 = .ok (.iload_n 1, 1) := by decide +kernel
theorem dX0_isGenerator_5 : decode cX0_isGenerator 5 = .ok (.aload_n 0, 1) := by decide +kernel
theorem dX0_isGenerator_6 : decode cX0_isGenerator 6 = .ok (.getfield 70, 3) := by decide +kernel
theorem dX0_isGenerator_9 : decode cX0_isGenerator 9 = .ok (.if_icmp .ge 7, 3) := by decide +kernel
theorem dX0_isGenerator_12 : decode cX0_isGenerator 12 = .ok (.iconst 1, 1) := by decide +kernel
theorem dX0_isGenerator_13 : decode cX0_isGenerator 13 = .ok (.goto 4, 3) := by decide +kernel
theorem dX0_isGenerator_16 : decode cX0_isGenerator 16 = .ok (.iconst 0, 1) := by decide +kernel
theorem dX0_isGenerator_17 : decode cX0_isGenerator 17 = .ok (.ireturn, 1) := by decide +kernel
abbrev cX0_isForm : ByteArray := prog_1_method_14_code
abbrev yX0_isForm : MethodName := ⟨"ClassGroup", "isForm", "(III)Z"⟩
abbrev wsX0_isForm : List Cond := .code ⟨"ClassGroup", "isForm", "(III)Z"⟩ prog_1_method_14_code 4 (some .boolean) :: wT
theorem dX0_isForm_0 : decode cX0_isForm 0 = .ok (.iload_n 1, 1) := by decide +kernel
theorem dX0_isForm_1 : decode cX0_isForm 1 = .ok (.invokestatic 149, 3) := by decide +kernel
theorem dX0_isForm_4 : decode cX0_isForm 4 = .ok (.ifCond .eq 65, 3) := by decide +kernel
theorem dX0_isForm_7 : decode cX0_isForm 7 = .ok (.iload_n 2, 1) := by decide +kernel
theorem dX0_isForm_8 : decode cX0_isForm 8 = .ok (.invokestatic 149, 3) := by decide +kernel
theorem dX0_isForm_11 : decode cX0_isForm 11 = .ok (.ifCond .eq 58, 3) := by decide +kernel
theorem dX0_isForm_14 : decode cX0_isForm 14 = .ok (.iload_n 3, 1) := by decide +kernel
theorem dX0_isForm_15 : decode cX0_isForm 15 = .ok (.invokestatic 149, 3) := by decide +kernel
theorem dX0_isForm_18 : decode cX0_isForm 18 = .ok (.ifCond .eq 51, 3) := by decide +kernel
theorem dX0_isForm_21 : decode cX0_isForm 21 = .ok (.iload_n 2, 1) := by decide +kernel
theorem dX0_isForm_22 : decode cX0_isForm 22 = .ok (.i2l, 1) := by decide +kernel
theorem dX0_isForm_23 : decode cX0_isForm 23 = .ok (.iload_n 2, 1) := by decide +kernel
theorem dX0_isForm_24 : decode cX0_isForm 24 = .ok (.i2l, 1) := by decide +kernel
theorem dX0_isForm_25 : decode cX0_isForm 25 = .ok (.lmul, 1) := by decide +kernel
theorem dX0_isForm_26 : decode cX0_isForm 26 = .ok (.ldc2_w 152, 3) := by decide +kernel
theorem dX0_isForm_29 : decode cX0_isForm 29 = .ok (.iload_n 1, 1) := by decide +kernel
theorem dX0_isForm_30 : decode cX0_isForm 30 = .ok (.i2l, 1) := by decide +kernel
theorem dX0_isForm_31 : decode cX0_isForm 31 = .ok (.lmul, 1) := by decide +kernel
theorem dX0_isForm_32 : decode cX0_isForm 32 = .ok (.iload_n 3, 1) := by decide +kernel
theorem dX0_isForm_33 : decode cX0_isForm 33 = .ok (.i2l, 1) := by decide +kernel
theorem dX0_isForm_34 : decode cX0_isForm 34 = .ok (.lmul, 1) := by decide +kernel
theorem dX0_isForm_35 : decode cX0_isForm 35 = .ok (.lsub, 1) := by decide +kernel
theorem dX0_isForm_36 : decode cX0_isForm 36 = .ok (.aload_n 0, 1) := by decide +kernel
theorem dX0_isForm_37 : decode cX0_isForm 37 = .ok (.getfield 64, 3) := by decide +kernel
theorem dX0_isForm_40 : decode cX0_isForm 40 = .ok (.i2l, 1) := by decide +kernel
theorem dX0_isForm_41 : decode cX0_isForm 41 = .ok (.lcmp, 1) := by decide +kernel
theorem dX0_isForm_42 : decode cX0_isForm 42 = .ok (.ifCond .ne 27, 3) := by decide +kernel
theorem dX0_isForm_45 : decode cX0_isForm 45 = .ok (.aload_n 0, 1) := by decide +kernel
theorem dX0_isForm_46 : decode cX0_isForm 46 = .ok (.getfield 64, 3) := by decide +kernel
theorem dX0_isForm_49 : decode cX0_isForm 49 = .ok (.ifCond .gt 7, 3) := by decide +kernel
theorem dX0_isForm_52 : decode cX0_isForm 52 = .ok (.iload_n 1, 1) := by decide +kernel
theorem dX0_isForm_53 : decode cX0_isForm 53 = .ok (.ifCond .le 16, 3) := by decide +kernel
theorem dX0_isForm_56 : decode cX0_isForm 56 = .ok (.iload_n 1, 1) := by decide +kernel
theorem dX0_isForm_57 : decode cX0_isForm 57 = .ok (.iload_n 2, 1) := by decide +kernel
theorem dX0_isForm_58 : decode cX0_isForm 58 = .ok (.iload_n 3, 1) := by decide +kernel
theorem dX0_isForm_59 : decode cX0_isForm 59 = .ok (.invokestatic 154, 3) := by decide +kernel
theorem dX0_isForm_62 : decode cX0_isForm 62 = .ok (.ifCond .eq 7, 3) := by decide +kernel
theorem dX0_isForm_65 : decode cX0_isForm 65 = .ok (.iconst 1, 1) := by decide +kernel
theorem dX0_isForm_66 : decode cX0_isForm 66 = .ok (.goto 4, 3) := by decide +kernel
theorem dX0_isForm_69 : decode cX0_isForm 69 = .ok (.iconst 0, 1) := by decide +kernel
theorem dX0_isForm_70 : decode cX0_isForm 70 = .ok (.ireturn, 1) := by decide +kernel
abbrev cX0_firstLikeD : ByteArray := prog_1_method_26_code
abbrev yX0_firstLikeD : MethodName := ⟨"ClassGroup", "firstLikeD", "(I)I"⟩
abbrev wsX0_firstLikeD : List Cond := .code ⟨"ClassGroup", "firstLikeD", "(I)I"⟩ prog_1_method_26_code 2 (some .int) :: wT
theorem dX0_firstLikeD_0 : decode cX0_firstLikeD 0 = .ok (.iload_n 1, 1) := by decide +kernel
theorem dX0_firstLikeD_1 : decode cX0_firstLikeD 1 = .ok (.iload_n 1, 1) := by decide +kernel
theorem dX0_firstLikeD_2 : decode cX0_firstLikeD 2 = .ok (.aload_n 0, 1) := by decide +kernel
theorem dX0_firstLikeD_3 : decode cX0_firstLikeD 3 = .ok (.getfield 64, 3) := by decide +kernel
theorem dX0_firstLikeD_6 : decode cX0_firstLikeD 6 = .ok (.ixor, 1) := by decide +kernel
theorem dX0_firstLikeD_7 : decode cX0_firstLikeD 7 = .ok (.iconst 1, 1) := by decide +kernel
theorem dX0_firstLikeD_8 : decode cX0_firstLikeD 8 = .ok (.iand, 1) := by decide +kernel
theorem dX0_firstLikeD_9 : decode cX0_firstLikeD 9 = .ok (.iadd, 1) := by decide +kernel
theorem dX0_firstLikeD_10 : decode cX0_firstLikeD 10 = .ok (.ireturn, 1) := by decide +kernel
abbrev cX0_addName : ByteArray := prog_1_method_27_code
abbrev yX0_addName : MethodName := ⟨"ClassGroup", "addName", "(II)V"⟩
abbrev wsX0_addName : List Cond := .code ⟨"ClassGroup", "addName", "(II)V"⟩ prog_1_method_27_code 5 none :: wT
theorem dX0_addName_0 : decode cX0_addName 0 = .ok (.aload_n 0, 1) := by decide +kernel
theorem dX0_addName_1 : decode cX0_addName 1 = .ok (.getfield 60, 3) := by decide +kernel
theorem dX0_addName_4 : decode cX0_addName 4 = .ok (.sipush 1908, 3) := by decide +kernel
theorem dX0_addName_7 : decode cX0_addName 7 = .ok (.if_icmp .lt 4, 3) := by decide +kernel
theorem dX0_addName_10 : decode cX0_addName 10 = .ok (.return_, 1) := by decide +kernel
theorem dX0_addName_11 : decode cX0_addName 11 = .ok (.iload_n 1, 1) := by decide +kernel
theorem dX0_addName_12 : decode cX0_addName 12 = .ok (.sipush 4096, 3) := by decide +kernel
theorem dX0_addName_15 : decode cX0_addName 15 = .ok (.imul, 1) := by decide +kernel
theorem dX0_addName_16 : decode cX0_addName 16 = .ok (.iload_n 2, 1) := by decide +kernel
theorem dX0_addName_17 : decode cX0_addName 17 = .ok (.iadd, 1) := by decide +kernel
theorem dX0_addName_18 : decode cX0_addName 18 = .ok (.istore_n 3, 1) := by decide +kernel
theorem dX0_addName_19 : decode cX0_addName 19 = .ok (.aload_n 0, 1) := by decide +kernel
theorem dX0_addName_20 : decode cX0_addName 20 = .ok (.getfield 60, 3) := by decide +kernel
theorem dX0_addName_23 : decode cX0_addName 23 = .ok (.istore 4, 2) := by decide +kernel
theorem dX0_addName_25 : decode cX0_addName 25 = .ok (.iload 4, 2) := by decide +kernel
theorem dX0_addName_27 : decode cX0_addName 27 = .ok (.ifCond .le 38, 3) := by decide +kernel
theorem dX0_addName_30 : decode cX0_addName 30 = .ok (.aload_n 0, 1) := by decide +kernel
theorem dX0_addName_31 : decode cX0_addName 31 = .ok (.getfield 9, 3) := by decide +kernel
theorem dX0_addName_34 : decode cX0_addName 34 = .ok (.iload 4, 2) := by decide +kernel
theorem dX0_addName_36 : decode cX0_addName 36 = .ok (.iconst 1, 1) := by decide +kernel
theorem dX0_addName_37 : decode cX0_addName 37 = .ok (.isub, 1) := by decide +kernel
theorem dX0_addName_38 : decode cX0_addName 38 = .ok (.iaload, 1) := by decide +kernel
theorem dX0_addName_39 : decode cX0_addName 39 = .ok (.iload_n 3, 1) := by decide +kernel
theorem dX0_addName_40 : decode cX0_addName 40 = .ok (.if_icmp .le 25, 3) := by decide +kernel
theorem dX0_addName_43 : decode cX0_addName 43 = .ok (.aload_n 0, 1) := by decide +kernel
theorem dX0_addName_44 : decode cX0_addName 44 = .ok (.getfield 9, 3) := by decide +kernel
theorem dX0_addName_47 : decode cX0_addName 47 = .ok (.iload 4, 2) := by decide +kernel
theorem dX0_addName_49 : decode cX0_addName 49 = .ok (.aload_n 0, 1) := by decide +kernel
theorem dX0_addName_50 : decode cX0_addName 50 = .ok (.getfield 9, 3) := by decide +kernel
theorem dX0_addName_53 : decode cX0_addName 53 = .ok (.iload 4, 2) := by decide +kernel
theorem dX0_addName_55 : decode cX0_addName 55 = .ok (.iconst 1, 1) := by decide +kernel
theorem dX0_addName_56 : decode cX0_addName 56 = .ok (.isub, 1) := by decide +kernel
theorem dX0_addName_57 : decode cX0_addName 57 = .ok (.iaload, 1) := by decide +kernel
theorem dX0_addName_58 : decode cX0_addName 58 = .ok (.iastore, 1) := by decide +kernel
theorem dX0_addName_59 : decode cX0_addName 59 = .ok (.iinc 4 (-1), 3) := by decide +kernel
theorem dX0_addName_62 : decode cX0_addName 62 = .ok (.goto (-37), 3) := by decide +kernel
theorem dX0_addName_65 : decode cX0_addName 65 = .ok (.aload_n 0, 1) := by decide +kernel
theorem dX0_addName_66 : decode cX0_addName 66 = .ok (.getfield 9, 3) := by decide +kernel
theorem dX0_addName_69 : decode cX0_addName 69 = .ok (.iload 4, 2) := by decide +kernel
theorem dX0_addName_71 : decode cX0_addName 71 = .ok (.iload_n 3, 1) := by decide +kernel
theorem dX0_addName_72 : decode cX0_addName 72 = .ok (.iastore, 1) := by decide +kernel
theorem dX0_addName_73 : decode cX0_addName 73 = .ok (.aload_n 0, 1) := by decide +kernel
theorem dX0_addName_74 : decode cX0_addName 74 = .ok (.dup, 1) := by decide +kernel
theorem dX0_addName_75 : decode cX0_addName 75 = .ok (.getfield 60, 3) := by decide +kernel
theorem dX0_addName_78 : decode cX0_addName 78 = .ok (.iconst 1, 1) := by decide +kernel
theorem dX0_addName_79 : decode cX0_addName 79 = .ok (.iadd, 1) := by decide +kernel
theorem dX0_addName_80 : decode cX0_addName 80 = .ok (.putfield 60, 3) := by decide +kernel
theorem dX0_addName_83 : decode cX0_addName 83 = .ok (.return_, 1) := by decide +kernel
abbrev cX0_keyOf : ByteArray := prog_1_method_29_code
abbrev yX0_keyOf : MethodName := ⟨"ClassGroup", "keyOf", "(LClassGroup$Form;)I"⟩
abbrev wsX0_keyOf : List Cond := .code ⟨"ClassGroup", "keyOf", "(LClassGroup$Form;)I"⟩ prog_1_method_29_code 1 (some .int) :: wT
theorem dX0_keyOf_0 : decode cX0_keyOf 0 = .ok (.aload_n 0, 1) := by decide +kernel
theorem dX0_keyOf_1 : decode cX0_keyOf 1 = .ok (.getfield 94, 3) := by decide +kernel
theorem dX0_keyOf_4 : decode cX0_keyOf 4 = .ok (.l2i, 1) := by decide +kernel
theorem dX0_keyOf_5 : decode cX0_keyOf 5 = .ok (.sipush 4096, 3) := by decide +kernel
theorem dX0_keyOf_8 : decode cX0_keyOf 8 = .ok (.imul, 1) := by decide +kernel
theorem dX0_keyOf_9 : decode cX0_keyOf 9 = .ok (.aload_n 0, 1) := by decide +kernel
theorem dX0_keyOf_10 : decode cX0_keyOf 10 = .ok (.getfield 98, 3) := by decide +kernel
theorem dX0_keyOf_13 : decode cX0_keyOf 13 = .ok (.l2i, 1) := by decide +kernel
theorem dX0_keyOf_14 : decode cX0_keyOf 14 = .ok (.iadd, 1) := by decide +kernel
theorem dX0_keyOf_15 : decode cX0_keyOf 15 = .ok (.ireturn, 1) := by decide +kernel
abbrev cX0_classAt : ByteArray := prog_1_method_30_code
abbrev yX0_classAt : MethodName := ⟨"ClassGroup", "classAt", "(I)I"⟩
abbrev wsX0_classAt : List Cond := .code ⟨"ClassGroup", "classAt", "(I)I"⟩ prog_1_method_30_code 4 (some .int) :: wT
theorem dX0_classAt_0 : decode cX0_classAt 0 = .ok (.iconst (-1), 1) := by decide +kernel
theorem dX0_classAt_1 : decode cX0_classAt 1 = .ok (.istore_n 2, 1) := by decide +kernel
theorem dX0_classAt_2 : decode cX0_classAt 2 = .ok (.sipush 1024, 3) := by decide +kernel
theorem dX0_classAt_5 : decode cX0_classAt 5 = .ok (.istore_n 3, 1) := by decide +kernel
theorem dX0_classAt_6 : decode cX0_classAt 6 = .ok (.iload_n 3, 1) := by decide +kernel
theorem dX0_classAt_7 : decode cX0_classAt 7 = .ok (.ifCond .le 36, 3) := by decide +kernel
theorem dX0_classAt_10 : decode cX0_classAt 10 = .ok (.iload_n 2, 1) := by decide +kernel
theorem dX0_classAt_11 : decode cX0_classAt 11 = .ok (.iload_n 3, 1) := by decide +kernel
theorem dX0_classAt_12 : decode cX0_classAt 12 = .ok (.iadd, 1) := by decide +kernel
theorem dX0_classAt_13 : decode cX0_classAt 13 = .ok (.aload_n 0, 1) := by decide +kernel
theorem dX0_classAt_14 : decode cX0_classAt 14 = .ok (.getfield 60, 3) := by decide +kernel
theorem dX0_classAt_17 : decode cX0_classAt 17 = .ok (.if_icmp .ge 19, 3) := by decide +kernel
theorem dX0_classAt_20 : decode cX0_classAt 20 = .ok (.aload_n 0, 1) := by decide +kernel
theorem dX0_classAt_21 : decode cX0_classAt 21 = .ok (.getfield 9, 3) := by decide +kernel
theorem dX0_classAt_24 : decode cX0_classAt 24 = .ok (.iload_n 2, 1) := by decide +kernel
theorem dX0_classAt_25 : decode cX0_classAt 25 = .ok (.iload_n 3, 1) := by decide +kernel
theorem dX0_classAt_26 : decode cX0_classAt 26 = .ok (.iadd, 1) := by decide +kernel
theorem dX0_classAt_27 : decode cX0_classAt 27 = .ok (.iaload, 1) := by decide +kernel
theorem dX0_classAt_28 : decode cX0_classAt 28 = .ok (.iload_n 1, 1) := by decide +kernel
theorem dX0_classAt_29 : decode cX0_classAt 29 = .ok (.if_icmp .gt 7, 3) := by decide +kernel
theorem dX0_classAt_32 : decode cX0_classAt 32 = .ok (.iload_n 2, 1) := by decide +kernel
theorem dX0_classAt_33 : decode cX0_classAt 33 = .ok (.iload_n 3, 1) := by decide +kernel
theorem dX0_classAt_34 : decode cX0_classAt 34 = .ok (.iadd, 1) := by decide +kernel
theorem dX0_classAt_35 : decode cX0_classAt 35 = .ok (.istore_n 2, 1) := by decide +kernel
theorem dX0_classAt_36 : decode cX0_classAt 36 = .ok (.iload_n 3, 1) := by decide +kernel
theorem dX0_classAt_37 : decode cX0_classAt 37 = .ok (.iconst 1, 1) := by decide +kernel
theorem dX0_classAt_38 : decode cX0_classAt 38 = .ok (.ishr, 1) := by decide +kernel
theorem dX0_classAt_39 : decode cX0_classAt 39 = .ok (.istore_n 3, 1) := by decide +kernel
theorem dX0_classAt_40 : decode cX0_classAt 40 = .ok (.goto (-34), 3) := by decide +kernel
theorem dX0_classAt_43 : decode cX0_classAt 43 = .ok (.aload_n 0, 1) := by decide +kernel
theorem dX0_classAt_44 : decode cX0_classAt 44 = .ok (.iload_n 2, 1) := by decide +kernel
theorem dX0_classAt_45 : decode cX0_classAt 45 = .ok (.invokevirtual 82, 3) := by decide +kernel
theorem dX0_classAt_48 : decode cX0_classAt 48 = .ok (.ifCond .eq 17, 3) := by decide +kernel
theorem dX0_classAt_51 : decode cX0_classAt 51 = .ok (.aload_n 0, 1) := by decide +kernel
theorem dX0_classAt_52 : decode cX0_classAt 52 = .ok (.getfield 9, 3) := by decide +kernel
theorem dX0_classAt_55 : decode cX0_classAt 55 = .ok (.iload_n 2, 1) := by decide +kernel
theorem dX0_classAt_56 : decode cX0_classAt 56 = .ok (.iaload, 1) := by decide +kernel
theorem dX0_classAt_57 : decode cX0_classAt 57 = .ok (.iload_n 1, 1) := by decide +kernel
theorem dX0_classAt_58 : decode cX0_classAt 58 = .ok (.if_icmp .ne 7, 3) := by decide +kernel
theorem dX0_classAt_61 : decode cX0_classAt 61 = .ok (.iload_n 2, 1) := by decide +kernel
theorem dX0_classAt_62 : decode cX0_classAt 62 = .ok (.goto 4, 3) := by decide +kernel
theorem dX0_classAt_65 : decode cX0_classAt 65 = .ok (.iconst (-1), 1) := by decide +kernel
theorem dX0_classAt_66 : decode cX0_classAt 66 = .ok (.ireturn, 1) := by decide +kernel
abbrev cX0_isReduced : ByteArray := prog_1_method_31_code
abbrev yX0_isReduced : MethodName := ⟨"ClassGroup", "isReduced", "(LClassGroup$Form;)Z"⟩
abbrev wsX0_isReduced : List Cond := .code ⟨"ClassGroup", "isReduced", "(LClassGroup$Form;)Z"⟩ prog_1_method_31_code 4 (some .boolean) :: wT
theorem dX0_isReduced_0 : decode cX0_isReduced 0 = .ok (.aload_n 0, 1) := by decide +kernel
theorem dX0_isReduced_1 : decode cX0_isReduced 1 = .ok (.getfield 64, 3) := by decide +kernel
theorem dX0_isReduced_4 : decode cX0_isReduced 4 = .ok (.ifCond .ge 70, 3) := by decide +kernel
theorem dX0_isReduced_7 : decode cX0_isReduced 7 = .ok (.aload_n 1, 1) := by decide +kernel
theorem dX0_isReduced_8 : decode cX0_isReduced 8 = .ok (.getfield 98, 3) := by decide +kernel
theorem dX0_isReduced_11 : decode cX0_isReduced 11 = .ok (.invokestatic 132, 3) := by decide +kernel
theorem dX0_isReduced_14 : decode cX0_isReduced 14 = .ok (.aload_n 1, 1) := by decide +kernel
theorem dX0_isReduced_15 : decode cX0_isReduced 15 = .ok (.getfield 94, 3) := by decide +kernel
theorem dX0_isReduced_18 : decode cX0_isReduced 18 = .ok (.lcmp, 1) := by decide +kernel
theorem dX0_isReduced_19 : decode cX0_isReduced 19 = .ok (.ifCond .gt 53, 3) := by decide +kernel
theorem dX0_isReduced_22 : decode cX0_isReduced 22 = .ok (.aload_n 1, 1) := by decide +kernel
theorem dX0_isReduced_23 : decode cX0_isReduced 23 = .ok (.getfield 94, 3) := by decide +kernel
theorem dX0_isReduced_26 : decode cX0_isReduced 26 = .ok (.aload_n 1, 1) := by decide +kernel
theorem dX0_isReduced_27 : decode cX0_isReduced 27 = .ok (.getfield 101, 3) := by decide +kernel
theorem dX0_isReduced_30 : decode cX0_isReduced 30 = .ok (.lcmp, 1) := by decide +kernel
theorem dX0_isReduced_31 : decode cX0_isReduced 31 = .ok (.ifCond .gt 41, 3) := by decide +kernel
theorem dX0_isReduced_34 : decode cX0_isReduced 34 = .ok (.aload_n 1, 1) := by decide +kernel
theorem dX0_isReduced_35 : decode cX0_isReduced 35 = .ok (.getfield 98, 3) := by decide +kernel
theorem dX0_isReduced_38 : decode cX0_isReduced 38 = .ok (.lconst 0, 1) := by decide +kernel
theorem dX0_isReduced_39 : decode cX0_isReduced 39 = .ok (.lcmp, 1) := by decide +kernel
theorem dX0_isReduced_40 : decode cX0_isReduced 40 = .ok (.ifCond .ge 28, 3) := by decide +kernel
theorem dX0_isReduced_43 : decode cX0_isReduced 43 = .ok (.aload_n 1, 1) := by decide +kernel
theorem dX0_isReduced_44 : decode cX0_isReduced 44 = .ok (.getfield 98, 3) := by decide +kernel
theorem dX0_isReduced_47 : decode cX0_isReduced 47 = .ok (.lneg, 1) := by decide +kernel
theorem dX0_isReduced_48 : decode cX0_isReduced 48 = .ok (.aload_n 1, 1) := by decide +kernel
theorem dX0_isReduced_49 : decode cX0_isReduced 49 = .ok (.getfield 94, 3) := by decide +kernel
theorem dX0_isReduced_52 : decode cX0_isReduced 52 = .ok (.lcmp, 1) := by decide +kernel
theorem dX0_isReduced_53 : decode cX0_isReduced 53 = .ok (.ifCond .ge 19, 3) := by decide +kernel
theorem dX0_isReduced_56 : decode cX0_isReduced 56 = .ok (.aload_n 1, 1) := by decide +kernel
theorem dX0_isReduced_57 : decode cX0_isReduced 57 = .ok (.getfield 94, 3) := by decide +kernel
theorem dX0_isReduced_60 : decode cX0_isReduced 60 = .ok (.aload_n 1, 1) := by decide +kernel
theorem dX0_isReduced_61 : decode cX0_isReduced 61 = .ok (.getfield 101, 3) := by decide +kernel
theorem dX0_isReduced_64 : decode cX0_isReduced 64 = .ok (.lcmp, 1) := by decide +kernel
theorem dX0_isReduced_65 : decode cX0_isReduced 65 = .ok (.ifCond .ge 7, 3) := by decide +kernel
theorem dX0_isReduced_68 : decode cX0_isReduced 68 = .ok (.iconst 1, 1) := by decide +kernel
theorem dX0_isReduced_69 : decode cX0_isReduced 69 = .ok (.goto 4, 3) := by decide +kernel
theorem dX0_isReduced_72 : decode cX0_isReduced 72 = .ok (.iconst 0, 1) := by decide +kernel
theorem dX0_isReduced_73 : decode cX0_isReduced 73 = .ok (.ireturn, 1) := by decide +kernel
theorem dX0_isReduced_74 : decode cX0_isReduced 74 = .ok (.ldc2_w 210, 3) := by decide +kernel
theorem dX0_isReduced_77 : decode cX0_isReduced 77 = .ok (.aload_n 1, 1) := by decide +kernel
theorem dX0_isReduced_78 : decode cX0_isReduced 78 = .ok (.getfield 94, 3) := by decide +kernel
theorem dX0_isReduced_81 : decode cX0_isReduced 81 = .ok (.invokestatic 132, 3) := by decide +kernel
theorem dX0_isReduced_84 : decode cX0_isReduced 84 = .ok (.lmul, 1) := by decide +kernel
theorem dX0_isReduced_85 : decode cX0_isReduced 85 = .ok (.lstore_n 2, 1) := by decide +kernel
theorem dX0_isReduced_86 : decode cX0_isReduced 86 = .ok (.aload_n 1, 1) := by decide +kernel
theorem dX0_isReduced_87 : decode cX0_isReduced 87 = .ok (.getfield 98, 3) := by decide +kernel
theorem dX0_isReduced_90 : decode cX0_isReduced 90 = .ok (.lconst 0, 1) := by decide +kernel
theorem dX0_isReduced_91 : decode cX0_isReduced 91 = .ok (.lcmp, 1) := by decide +kernel
theorem dX0_isReduced_92 : decode cX0_isReduced 92 = .ok (.ifCond .le 50, 3) := by decide +kernel
theorem dX0_isReduced_95 : decode cX0_isReduced 95 = .ok (.aload_n 1, 1) := by decide +kernel
theorem dX0_isReduced_96 : decode cX0_isReduced 96 = .ok (.getfield 98, 3) := by decide +kernel
theorem dX0_isReduced_99 : decode cX0_isReduced 99 = .ok (.aload_n 0, 1) := by decide +kernel
theorem dX0_isReduced_100 : decode cX0_isReduced 100 = .ok (.getfield 173, 3) := by decide +kernel
theorem dX0_isReduced_103 : decode cX0_isReduced 103 = .ok (.i2l, 1) := by decide +kernel
theorem dX0_isReduced_104 : decode cX0_isReduced 104 = .ok (.lcmp, 1) := by decide +kernel
theorem dX0_isReduced_105 : decode cX0_isReduced 105 = .ok (.ifCond .gt 37, 3) := by decide +kernel
theorem dX0_isReduced_108 : decode cX0_isReduced 108 = .ok (.lload_n 2, 1) := by decide +kernel
theorem dX0_isReduced_109 : decode cX0_isReduced 109 = .ok (.aload_n 1, 1) := by decide +kernel
theorem dX0_isReduced_110 : decode cX0_isReduced 110 = .ok (.getfield 98, 3) := by decide +kernel
theorem dX0_isReduced_113 : decode cX0_isReduced 113 = .ok (.ladd, 1) := by decide +kernel
theorem dX0_isReduced_114 : decode cX0_isReduced 114 = .ok (.aload_n 0, 1) := by decide +kernel
theorem dX0_isReduced_115 : decode cX0_isReduced 115 = .ok (.getfield 173, 3) := by decide +kernel
theorem dX0_isReduced_118 : decode cX0_isReduced 118 = .ok (.i2l, 1) := by decide +kernel
theorem dX0_isReduced_119 : decode cX0_isReduced 119 = .ok (.lcmp, 1) := by decide +kernel
theorem dX0_isReduced_120 : decode cX0_isReduced 120 = .ok (.ifCond .le 22, 3) := by decide +kernel
theorem dX0_isReduced_123 : decode cX0_isReduced 123 = .ok (.lload_n 2, 1) := by decide +kernel
theorem dX0_isReduced_124 : decode cX0_isReduced 124 = .ok (.aload_n 1, 1) := by decide +kernel
theorem dX0_isReduced_125 : decode cX0_isReduced 125 = .ok (.getfield 98, 3) := by decide +kernel
theorem dX0_isReduced_128 : decode cX0_isReduced 128 = .ok (.lsub, 1) := by decide +kernel
theorem dX0_isReduced_129 : decode cX0_isReduced 129 = .ok (.aload_n 0, 1) := by decide +kernel
theorem dX0_isReduced_130 : decode cX0_isReduced 130 = .ok (.getfield 173, 3) := by decide +kernel
theorem dX0_isReduced_133 : decode cX0_isReduced 133 = .ok (.i2l, 1) := by decide +kernel
theorem dX0_isReduced_134 : decode cX0_isReduced 134 = .ok (.lcmp, 1) := by decide +kernel
theorem dX0_isReduced_135 : decode cX0_isReduced 135 = .ok (.ifCond .gt 7, 3) := by decide +kernel
theorem dX0_isReduced_138 : decode cX0_isReduced 138 = .ok (.iconst 1, 1) := by decide +kernel
theorem dX0_isReduced_139 : decode cX0_isReduced 139 = .ok (.goto 4, 3) := by decide +kernel
theorem dX0_isReduced_142 : decode cX0_isReduced 142 = .ok (.iconst 0, 1) := by decide +kernel
theorem dX0_isReduced_143 : decode cX0_isReduced 143 = .ok (.ireturn, 1) := by decide +kernel
abbrev cX0_canBeTaken : ByteArray := prog_1_method_18_code
abbrev yX0_canBeTaken : MethodName := ⟨"ClassGroup", "canBeTaken", "(I)Z"⟩
abbrev wsX0_canBeTaken : List Cond := .code ⟨"ClassGroup", "canBeTaken", "(I)Z"⟩ prog_1_method_18_code 2 (some .boolean) :: wT
theorem dX0_canBeTaken_0 : decode cX0_canBeTaken 0 = .ok (.iload_n 0, 1) := by decide +kernel
theorem dX0_canBeTaken_1 : decode cX0_canBeTaken 1 = .ok (.ldc 165, 2) := by decide +kernel
theorem dX0_canBeTaken_3 : decode cX0_canBeTaken 3 = .ok (.if_icmp .lt 18, 3) := by decide +kernel
theorem dX0_canBeTaken_6 : decode cX0_canBeTaken 6 = .ok (.iload_n 0, 1) := by decide +kernel
theorem dX0_canBeTaken_7 : decode cX0_canBeTaken 7 = .ok (.ldc 166, 2) := by decide +kernel
theorem dX0_canBeTaken_9 : decode cX0_canBeTaken 9 = .ok (.if_icmp .gt 12, 3) := by decide +kernel
theorem dX0_canBeTaken_12 : decode cX0_canBeTaken 12 = .ok (.iload_n 0, 1) := by decide +kernel
theorem dX0_canBeTaken_13 : decode cX0_canBeTaken 13 = .ok (.iconst 4, 1) := by decide +kernel
theorem dX0_canBeTaken_14 : decode cX0_canBeTaken 14 = .ok (.invokestatic 167, 3) := by decide +kernel
theorem dX0_canBeTaken_17 : decode cX0_canBeTaken 17 = .ok (.iconst 1, 1) := by decide +kernel
theorem dX0_canBeTaken_18 : decode cX0_canBeTaken 18 = .ok (.if_icmp .le 5, 3) := by decide +kernel
theorem dX0_canBeTaken_21 : decode cX0_canBeTaken 21 = .ok (.iconst 0, 1) := by decide +kernel
theorem dX0_canBeTaken_22 : decode cX0_canBeTaken 22 = .ok (.ireturn, 1) := by decide +kernel
theorem dX0_canBeTaken_23 : decode cX0_canBeTaken 23 = .ok (.iload_n 0, 1) := by decide +kernel
theorem dX0_canBeTaken_24 : decode cX0_canBeTaken 24 = .ok (.invokestatic 170, 3) := by decide +kernel
theorem dX0_canBeTaken_27 : decode cX0_canBeTaken 27 = .ok (.istore_n 1, 1) := by decide +kernel
theorem dX0_canBeTaken_28 : decode cX0_canBeTaken 28 = .ok (.iload_n 1, 1) := by decide +kernel
theorem dX0_canBeTaken_29 : decode cX0_canBeTaken 29 = .ok (.iload_n 1, 1) := by decide +kernel
theorem dX0_canBeTaken_30 : decode cX0_canBeTaken 30 = .ok (.imul, 1) := by decide +kernel
theorem dX0_canBeTaken_31 : decode cX0_canBeTaken 31 = .ok (.iload_n 0, 1) := by decide +kernel
theorem dX0_canBeTaken_32 : decode cX0_canBeTaken 32 = .ok (.if_icmp .eq 7, 3) := by decide +kernel
theorem dX0_canBeTaken_35 : decode cX0_canBeTaken 35 = .ok (.iconst 1, 1) := by decide +kernel
theorem dX0_canBeTaken_36 : decode cX0_canBeTaken 36 = .ok (.goto 4, 3) := by decide +kernel
theorem dX0_canBeTaken_39 : decode cX0_canBeTaken 39 = .ok (.iconst 0, 1) := by decide +kernel
theorem dX0_canBeTaken_40 : decode cX0_canBeTaken 40 = .ok (.ireturn, 1) := by decide +kernel
abbrev cX0_setToName : ByteArray := prog_1_method_28_code
abbrev yX0_setToName : MethodName := ⟨"ClassGroup", "setToName", "(LClassGroup$Form;I)V"⟩
abbrev wsX0_setToName : List Cond := .code ⟨"ClassGroup", "setToName", "(LClassGroup$Form;I)V"⟩ prog_1_method_28_code 6 none :: wT
theorem dX0_setToName_0 : decode cX0_setToName 0 = .ok (.aload_n 0, 1) := by decide +kernel
theorem dX0_setToName_1 : decode cX0_setToName 1 = .ok (.iload_n 2, 1) := by decide +kernel
theorem dX0_setToName_2 : decode cX0_setToName 2 = .ok (.invokevirtual 82, 3) := by decide +kernel
theorem dX0_setToName_5 : decode cX0_setToName 5 = .ok (.ifCond .ne 4, 3) := by decide +kernel
theorem dX0_setToName_8 : decode cX0_setToName 8 = .ok (.return_, 1) := by decide +kernel
theorem dX0_setToName_9 : decode cX0_setToName 9 = .ok (.aload_n 0, 1) := by decide +kernel
theorem dX0_setToName_10 : decode cX0_setToName 10 = .ok (.getfield 9, 3) := by decide +kernel
theorem dX0_setToName_13 : decode cX0_setToName 13 = .ok (.iload_n 2, 1) := by decide +kernel
theorem dX0_setToName_14 : decode cX0_setToName 14 = .ok (.iaload, 1) := by decide +kernel
theorem dX0_setToName_15 : decode cX0_setToName 15 = .ok (.istore_n 3, 1) := by decide +kernel
theorem dX0_setToName_16 : decode cX0_setToName 16 = .ok (.iload_n 3, 1) := by decide +kernel
theorem dX0_setToName_17 : decode cX0_setToName 17 = .ok (.sipush 2048, 3) := by decide +kernel
theorem dX0_setToName_20 : decode cX0_setToName 20 = .ok (.iadd, 1) := by decide +kernel
theorem dX0_setToName_21 : decode cX0_setToName 21 = .ok (.sipush 4096, 3) := by decide +kernel
theorem dX0_setToName_24 : decode cX0_setToName 24 = .ok (.invokestatic 207, 3) := by decide +kernel
theorem dX0_setToName_27 : decode cX0_setToName 27 = .ok (.istore 4, 2) := by decide +kernel
theorem dX0_setToName_29 : decode cX0_setToName 29 = .ok (.iload_n 3, 1) := by decide +kernel
theorem dX0_setToName_30 : decode cX0_setToName 30 = .ok (.iload 4, 2) := by decide +kernel
theorem dX0_setToName_32 : decode cX0_setToName 32 = .ok (.sipush 4096, 3) := by decide +kernel
theorem dX0_setToName_35 : decode cX0_setToName 35 = .ok (.imul, 1) := by decide +kernel
theorem dX0_setToName_36 : decode cX0_setToName 36 = .ok (.isub, 1) := by decide +kernel
theorem dX0_setToName_37 : decode cX0_setToName 37 = .ok (.istore 5, 2) := by decide +kernel
theorem dX0_setToName_39 : decode cX0_setToName 39 = .ok (.iload 4, 2) := by decide +kernel
theorem dX0_setToName_41 : decode cX0_setToName 41 = .ok (.ifCond .eq 29, 3) := by decide +kernel
theorem dX0_setToName_44 : decode cX0_setToName 44 = .ok (.aload_n 1, 1) := by decide +kernel
theorem dX0_setToName_45 : decode cX0_setToName 45 = .ok (.iload 4, 2) := by decide +kernel
theorem dX0_setToName_47 : decode cX0_setToName 47 = .ok (.i2l, 1) := by decide +kernel
theorem dX0_setToName_48 : decode cX0_setToName 48 = .ok (.iload 5, 2) := by decide +kernel
theorem dX0_setToName_50 : decode cX0_setToName 50 = .ok (.i2l, 1) := by decide +kernel
theorem dX0_setToName_51 : decode cX0_setToName 51 = .ok (.iload 5, 2) := by decide +kernel
theorem dX0_setToName_53 : decode cX0_setToName 53 = .ok (.iload 5, 2) := by decide +kernel
theorem dX0_setToName_55 : decode cX0_setToName 55 = .ok (.imul, 1) := by decide +kernel
theorem dX0_setToName_56 : decode cX0_setToName 56 = .ok (.aload_n 0, 1) := by decide +kernel
theorem dX0_setToName_57 : decode cX0_setToName 57 = .ok (.getfield 64, 3) := by decide +kernel
theorem dX0_setToName_60 : decode cX0_setToName 60 = .ok (.isub, 1) := by decide +kernel
theorem dX0_setToName_61 : decode cX0_setToName 61 = .ok (.iconst 4, 1) := by decide +kernel
theorem dX0_setToName_62 : decode cX0_setToName 62 = .ok (.iload 4, 2) := by decide +kernel
theorem dX0_setToName_64 : decode cX0_setToName 64 = .ok (.imul, 1) := by decide +kernel
theorem dX0_setToName_65 : decode cX0_setToName 65 = .ok (.idiv, 1) := by decide +kernel
theorem dX0_setToName_66 : decode cX0_setToName 66 = .ok (.i2l, 1) := by decide +kernel
theorem dX0_setToName_67 : decode cX0_setToName 67 = .ok (.invokevirtual 110, 3) := by decide +kernel
theorem dX0_setToName_70 : decode cX0_setToName 70 = .ok (.return_, 1) := by decide +kernel
abbrev cX0_step : ByteArray := prog_1_method_33_code
abbrev yX0_step : MethodName := ⟨"ClassGroup", "step", "(LClassGroup$Form;)V"⟩
abbrev wsX0_step : List Cond := .code ⟨"ClassGroup", "step", "(LClassGroup$Form;)V"⟩ prog_1_method_33_code 8 none :: wT
theorem dX0_step_0 : decode cX0_step 0 = .ok (.aload_n 1, 1) := by decide +kernel
theorem dX0_step_1 : decode cX0_step 1 = .ok (.getfield 101, 3) := by decide +kernel
theorem dX0_step_4 : decode cX0_step 4 = .ok (.invokestatic 132, 3) := by decide +kernel
theorem dX0_step_7 : decode cX0_step 7 = .ok (.lstore_n 2, 1) := by decide +kernel
theorem dX0_step_8 : decode cX0_step 8 = .ok (.lload_n 2, 1) := by decide +kernel
theorem dX0_step_9 : decode cX0_step 9 = .ok (.lconst 0, 1) := by decide +kernel
theorem dX0_step_10 : decode cX0_step 10 = .ok (.lcmp, 1) := by decide +kernel
theorem dX0_step_11 : decode cX0_step 11 = .ok (.ifCond .ne 4, 3) := by decide +kernel
theorem dX0_step_14 : decode cX0_step 14 = .ok (.return_, 1) := by decide +kernel
theorem dX0_step_15 : decode cX0_step 15 = .ok (.aload_n 0, 1) := by decide +kernel
theorem dX0_step_16 : decode cX0_step 16 = .ok (.getfield 64, 3) := by decide +kernel
theorem dX0_step_19 : decode cX0_step 19 = .ok (.ifCond .le 21, 3) := by decide +kernel
theorem dX0_step_22 : decode cX0_step 22 = .ok (.lload_n 2, 1) := by decide +kernel
theorem dX0_step_23 : decode cX0_step 23 = .ok (.aload_n 0, 1) := by decide +kernel
theorem dX0_step_24 : decode cX0_step 24 = .ok (.getfield 173, 3) := by decide +kernel
theorem dX0_step_27 : decode cX0_step 27 = .ok (.i2l, 1) := by decide +kernel
theorem dX0_step_28 : decode cX0_step 28 = .ok (.lcmp, 1) := by decide +kernel
theorem dX0_step_29 : decode cX0_step 29 = .ok (.ifCond .gt 11, 3) := by decide +kernel
theorem dX0_step_32 : decode cX0_step 32 = .ok (.aload_n 0, 1) := by decide +kernel
theorem dX0_step_33 : decode cX0_step 33 = .ok (.getfield 173, 3) := by decide +kernel
theorem dX0_step_36 : decode cX0_step 36 = .ok (.i2l, 1) := by decide +kernel
theorem dX0_step_37 : decode cX0_step 37 = .ok (.goto 4, 3) := by decide +kernel
theorem dX0_step_40 : decode cX0_step 40 = .ok (.lload_n 2, 1) := by decide +kernel
theorem dX0_step_41 : decode cX0_step 41 = .ok (.lstore 4, 2) := by decide +kernel
theorem dX0_step_43 : decode cX0_step 43 = .ok (.lload 4, 2) := by decide +kernel
theorem dX0_step_45 : decode cX0_step 45 = .ok (.lload 4, 2) := by decide +kernel
theorem dX0_step_47 : decode cX0_step 47 = .ok (.aload_n 1, 1) := by decide +kernel
theorem dX0_step_48 : decode cX0_step 48 = .ok (.getfield 98, 3) := by decide +kernel
theorem dX0_step_51 : decode cX0_step 51 = .ok (.ladd, 1) := by decide +kernel
theorem dX0_step_52 : decode cX0_step 52 = .ok (.ldc2_w 210, 3) := by decide +kernel
theorem dX0_step_55 : decode cX0_step 55 = .ok (.lload_n 2, 1) := by decide +kernel
theorem dX0_step_56 : decode cX0_step 56 = .ok (.lmul, 1) := by decide +kernel
theorem dX0_step_57 : decode cX0_step 57 = .ok (.invokestatic 218, 3) := by decide +kernel
theorem dX0_step_60 : decode cX0_step 60 = .ok (.lsub, 1) := by decide +kernel
theorem dX0_step_61 : decode cX0_step 61 = .ok (.lstore 6, 2) := by decide +kernel
theorem dX0_step_63 : decode cX0_step 63 = .ok (.aload_n 1, 1) := by decide +kernel
theorem dX0_step_64 : decode cX0_step 64 = .ok (.aload_n 1, 1) := by decide +kernel
theorem dX0_step_65 : decode cX0_step 65 = .ok (.getfield 101, 3) := by decide +kernel
theorem dX0_step_68 : decode cX0_step 68 = .ok (.lload 6, 2) := by decide +kernel
theorem dX0_step_70 : decode cX0_step 70 = .ok (.lload 6, 2) := by decide +kernel
theorem dX0_step_72 : decode cX0_step 72 = .ok (.lload 6, 2) := by decide +kernel
theorem dX0_step_74 : decode cX0_step 74 = .ok (.lmul, 1) := by decide +kernel
theorem dX0_step_75 : decode cX0_step 75 = .ok (.aload_n 0, 1) := by decide +kernel
theorem dX0_step_76 : decode cX0_step 76 = .ok (.getfield 64, 3) := by decide +kernel
theorem dX0_step_79 : decode cX0_step 79 = .ok (.i2l, 1) := by decide +kernel
theorem dX0_step_80 : decode cX0_step 80 = .ok (.lsub, 1) := by decide +kernel
theorem dX0_step_81 : decode cX0_step 81 = .ok (.ldc2_w 152, 3) := by decide +kernel
theorem dX0_step_84 : decode cX0_step 84 = .ok (.aload_n 1, 1) := by decide +kernel
theorem dX0_step_85 : decode cX0_step 85 = .ok (.getfield 101, 3) := by decide +kernel
theorem dX0_step_88 : decode cX0_step 88 = .ok (.lmul, 1) := by decide +kernel
theorem dX0_step_89 : decode cX0_step 89 = .ok (.ldiv, 1) := by decide +kernel
theorem dX0_step_90 : decode cX0_step 90 = .ok (.invokevirtual 110, 3) := by decide +kernel
theorem dX0_step_93 : decode cX0_step 93 = .ok (.return_, 1) := by decide +kernel
