abbrev cX0_take : ByteArray := prog_1_method_2_code
abbrev yX0_take : MethodName := ⟨"ClassGroup", "take", "(I)I"⟩
abbrev wsX0_take : List Cond := .code ⟨"ClassGroup", "take", "(I)I"⟩ prog_1_method_2_code 2 (some .int) :: wT
theorem dX0_take_0 : decode cX0_take 0 = .ok (.iload_n 1, 1) := by decide +kernel
theorem dX0_take_1 : decode cX0_take 1 = .ok (.invokestatic 49, 3) := by decide +kernel
theorem dX0_take_4 : decode cX0_take 4 = .ok (.ifCond .ne 13, 3) := by decide +kernel
theorem dX0_take_7 : decode cX0_take 7 = .ok (.new 53, 3) := by decide +kernel
theorem dX0_take_10 : decode cX0_take 10 = .ok (.dup, 1) := by decide +kernel
theorem dX0_take_11 : decode cX0_take 11 = .ok (.ldc 55, 2) := by decide +kernel
theorem dX0_take_13 : decode cX0_take 13 = .ok (.invokespecial 57, 3) := by decide +kernel
theorem dX0_take_16 : decode cX0_take 16 = .ok (.athrow, 1) := by decide +kernel
theorem dX0_take_17 : decode cX0_take 17 = .ok (.aload_n 0, 1) := by decide +kernel
theorem dX0_take_18 : decode cX0_take 18 = .ok (.iload_n 1, 1) := by decide +kernel
theorem dX0_take_19 : decode cX0_take 19 = .ok (.invokevirtual 45, 3) := by decide +kernel
theorem dX0_take_22 : decode cX0_take 22 = .ok (.aload_n 0, 1) := by decide +kernel
theorem dX0_take_23 : decode cX0_take 23 = .ok (.getfield 60, 3) := by decide +kernel
theorem dX0_take_26 : decode cX0_take 26 = .ok (.ireturn, 1) := by decide +kernel
abbrev cX0_name : ByteArray := prog_1_method_4_code
abbrev yX0_name : MethodName := ⟨"ClassGroup", "name", "(II)I"⟩
abbrev wsX0_name : List Cond := .code ⟨"ClassGroup", "name", "(II)I"⟩ prog_1_method_4_code 3 (some .int) :: wT
theorem dX0_name_0 : decode cX0_name 0 = .ok (.aload_n 0, 1) := by decide +kernel
theorem dX0_name_1 : decode cX0_name 1 = .ok (.iload_n 1, 1) := by decide +kernel
theorem dX0_name_2 : decode cX0_name 2 = .ok (.invokevirtual 82, 3) := by decide +kernel
theorem dX0_name_5 : decode cX0_name 5 = .ok (.ifCond .eq 12, 3) := by decide +kernel
theorem dX0_name_8 : decode cX0_name 8 = .ok (.iload_n 2, 1) := by decide +kernel
theorem dX0_name_9 : decode cX0_name 9 = .ok (.ifCond .lt 8, 3) := by decide +kernel
theorem dX0_name_12 : decode cX0_name 12 = .ok (.iload_n 2, 1) := by decide +kernel
theorem dX0_name_13 : decode cX0_name 13 = .ok (.iconst 2, 1) := by decide +kernel
theorem dX0_name_14 : decode cX0_name 14 = .ok (.if_icmp .le 13, 3) := by decide +kernel
theorem dX0_name_17 : decode cX0_name 17 = .ok (.new 85, 3) := by decide +kernel
theorem dX0_name_20 : decode cX0_name 20 = .ok (.dup, 1) := by decide +kernel
theorem dX0_name_21 : decode cX0_name 21 = .ok (.ldc 87, 2) := by decide +kernel
theorem dX0_name_23 : decode cX0_name 23 = .ok (.invokespecial 89, 3) := by decide +kernel
theorem dX0_name_26 : decode cX0_name 26 = .ok (.athrow, 1) := by decide +kernel
theorem dX0_name_27 : decode cX0_name 27 = .ok (.aload_n 0, 1) := by decide +kernel
theorem dX0_name_28 : decode cX0_name 28 = .ok (.aload_n 0, 1) := by decide +kernel
theorem dX0_name_29 : decode cX0_name 29 = .ok (.getfield 31, 3) := by decide +kernel
theorem dX0_name_32 : decode cX0_name 32 = .ok (.iload_n 1, 1) := by decide +kernel
theorem dX0_name_33 : decode cX0_name 33 = .ok (.invokevirtual 90, 3) := by decide +kernel
theorem dX0_name_36 : decode cX0_name 36 = .ok (.iload_n 2, 1) := by decide +kernel
theorem dX0_name_37 : decode cX0_name 37 = .ok (.ifCond .ne 13, 3) := by decide +kernel
theorem dX0_name_40 : decode cX0_name 40 = .ok (.aload_n 0, 1) := by decide +kernel
theorem dX0_name_41 : decode cX0_name 41 = .ok (.getfield 31, 3) := by decide +kernel
theorem dX0_name_44 : decode cX0_name 44 = .ok (.getfield 94, 3) := by decide +kernel
theorem dX0_name_47 : decode cX0_name 47 = .ok (.goto 25, 3) := by decide +kernel
theorem dX0_name_50 : decode cX0_name 50 = .ok (.iload_n 2, 1) := by decide +kernel
theorem dX0_name_51 : decode cX0_name 51 = .ok (.iconst 1, 1) := by decide +kernel
theorem dX0_name_52 : decode cX0_name 52 = .ok (.if_icmp .ne 13, 3) := by decide +kernel
theorem dX0_name_55 : decode cX0_name 55 = .ok (.aload_n 0, 1) := by decide +kernel
theorem dX0_name_56 : decode cX0_name 56 = .ok (.getfield 31, 3) := by decide +kernel
theorem dX0_name_59 : decode cX0_name 59 = .ok (.getfield 98, 3) := by decide +kernel
theorem dX0_name_62 : decode cX0_name 62 = .ok (.goto 10, 3) := by decide +kernel
theorem dX0_name_65 : decode cX0_name 65 = .ok (.aload_n 0, 1) := by decide +kernel
theorem dX0_name_66 : decode cX0_name 66 = .ok (.getfield 31, 3) := by decide +kernel
theorem dX0_name_69 : decode cX0_name 69 = .ok (.getfield 101, 3) := by decide +kernel
theorem dX0_name_72 : decode cX0_name 72 = .ok (.l2i, 1) := by decide +kernel
theorem dX0_name_73 : decode cX0_name 73 = .ok (.ireturn, 1) := by decide +kernel
abbrev cX0_classOf : ByteArray := prog_1_method_5_code
abbrev yX0_classOf : MethodName := ⟨"ClassGroup", "classOf", "(III)I"⟩
abbrev wsX0_classOf : List Cond := .code ⟨"ClassGroup", "classOf", "(III)I"⟩ prog_1_method_5_code 4 (some .int) :: wT
theorem dX0_classOf_0 : decode cX0_classOf 0 = .ok (.aload_n 0, 1) := by decide +kernel
theorem dX0_classOf_1 : decode cX0_classOf 1 = .ok (.iload_n 1, 1) := by decide +kernel
theorem dX0_classOf_2 : decode cX0_classOf 2 = .ok (.iload_n 2, 1) := by decide +kernel
theorem dX0_classOf_3 : decode cX0_classOf 3 = .ok (.iload_n 3, 1) := by decide +kernel
theorem dX0_classOf_4 : decode cX0_classOf 4 = .ok (.invokevirtual 104, 3) := by decide +kernel
theorem dX0_classOf_7 : decode cX0_classOf 7 = .ok (.ifCond .ne 13, 3) := by decide +kernel
theorem dX0_classOf_10 : decode cX0_classOf 10 = .ok (.new 53, 3) := by decide +kernel
theorem dX0_classOf_13 : decode cX0_classOf 13 = .ok (.dup, 1) := by decide +kernel
theorem dX0_classOf_14 : decode cX0_classOf 14 = .ok (.ldc 108, 2) := by decide +kernel
theorem dX0_classOf_16 : decode cX0_classOf 16 = .ok (.invokespecial 57, 3) := by decide +kernel
theorem dX0_classOf_19 : decode cX0_classOf 19 = .ok (.athrow, 1) := by decide +kernel
theorem dX0_classOf_20 : decode cX0_classOf 20 = .ok (.aload_n 0, 1) := by decide +kernel
theorem dX0_classOf_21 : decode cX0_classOf 21 = .ok (.getfield 31, 3) := by decide +kernel
theorem dX0_classOf_24 : decode cX0_classOf 24 = .ok (.iload_n 1, 1) := by decide +kernel
theorem dX0_classOf_25 : decode cX0_classOf 25 = .ok (.i2l, 1) := by decide +kernel
theorem dX0_classOf_26 : decode cX0_classOf 26 = .ok (.iload_n 2, 1) := by decide +kernel
theorem dX0_classOf_27 : decode cX0_classOf 27 = .ok (.i2l, 1) := by decide +kernel
theorem dX0_classOf_28 : decode cX0_classOf 28 = .ok (.iload_n 3, 1) := by decide +kernel
theorem dX0_classOf_29 : decode cX0_classOf 29 = .ok (.i2l, 1) := by decide +kernel
theorem dX0_classOf_30 : decode cX0_classOf 30 = .ok (.invokevirtual 110, 3) := by decide +kernel
theorem dX0_classOf_33 : decode cX0_classOf 33 = .ok (.aload_n 0, 1) := by decide +kernel
theorem dX0_classOf_34 : decode cX0_classOf 34 = .ok (.aload_n 0, 1) := by decide +kernel
theorem dX0_classOf_35 : decode cX0_classOf 35 = .ok (.getfield 31, 3) := by decide +kernel
theorem dX0_classOf_38 : decode cX0_classOf 38 = .ok (.invokevirtual 114, 3) := by decide +kernel
theorem dX0_classOf_41 : decode cX0_classOf 41 = .ok (.aload_n 0, 1) := by decide +kernel
theorem dX0_classOf_42 : decode cX0_classOf 42 = .ok (.aload_n 0, 1) := by decide +kernel
theorem dX0_classOf_43 : decode cX0_classOf 43 = .ok (.aload_n 0, 1) := by decide +kernel
theorem dX0_classOf_44 : decode cX0_classOf 44 = .ok (.getfield 31, 3) := by decide +kernel
theorem dX0_classOf_47 : decode cX0_classOf 47 = .ok (.invokevirtual 118, 3) := by decide +kernel
theorem dX0_classOf_50 : decode cX0_classOf 50 = .ok (.invokevirtual 122, 3) := by decide +kernel
theorem dX0_classOf_53 : decode cX0_classOf 53 = .ok (.ireturn, 1) := by decide +kernel
abbrev cX0_product : ByteArray := prog_1_method_6_code
abbrev yX0_product : MethodName := ⟨"ClassGroup", "product", "(II)I"⟩
abbrev wsX0_product : List Cond := .code ⟨"ClassGroup", "product", "(II)I"⟩ prog_1_method_6_code 3 (some .int) :: wT
theorem dX0_product_0 : decode cX0_product 0 = .ok (.aload_n 0, 1) := by decide +kernel
theorem dX0_product_1 : decode cX0_product 1 = .ok (.iload_n 1, 1) := by decide +kernel
theorem dX0_product_2 : decode cX0_product 2 = .ok (.invokevirtual 82, 3) := by decide +kernel
theorem dX0_product_5 : decode cX0_product 5 = .ok (.ifCond .eq 11, 3) := by decide +kernel
theorem dX0_product_8 : decode cX0_product 8 = .ok (.aload_n 0, 1) := by decide +kernel
theorem dX0_product_9 : decode cX0_product 9 = .ok (.iload_n 2, 1) := by decide +kernel
theorem dX0_product_10 : decode cX0_product 10 = .ok (.invokevirtual 82, 3) := by decide +kernel
theorem dX0_product_13 : decode cX0_product 13 = .ok (.ifCond .ne 13, 3) := by decide +kernel
theorem dX0_product_16 : decode cX0_product 16 = .ok (.new 85, 3) := by decide +kernel
theorem dX0_product_19 : decode cX0_product 19 = .ok (.dup, 1) := by decide +kernel
theorem dX0_product_20 : decode cX0_product 20 = .ok (.ldc 126, 2) := by decide +kernel
theorem dX0_product_22 : decode cX0_product 22 = .ok (.invokespecial 89, 3) := by decide +kernel
theorem dX0_product_25 : decode cX0_product 25 = .ok (.athrow, 1) := by decide +kernel
theorem dX0_product_26 : decode cX0_product 26 = .ok (.aload_n 0, 1) := by decide +kernel
theorem dX0_product_27 : decode cX0_product 27 = .ok (.iload_n 1, 1) := by decide +kernel
theorem dX0_product_28 : decode cX0_product 28 = .ok (.iload_n 2, 1) := by decide +kernel
theorem dX0_product_29 : decode cX0_product 29 = .ok (.invokevirtual 128, 3) := by decide +kernel
theorem dX0_product_32 : decode cX0_product 32 = .ok (.ireturn, 1) := by decide +kernel
abbrev cX0_inverse : ByteArray := prog_1_method_7_code
abbrev yX0_inverse : MethodName := ⟨"ClassGroup", "inverse", "(I)I"⟩
abbrev wsX0_inverse : List Cond := .code ⟨"ClassGroup", "inverse", "(I)I"⟩ prog_1_method_7_code 2 (some .int) :: wT
theorem dX0_inverse_0 : decode cX0_inverse 0 = .ok (.aload_n 0, 1) := by decide +kernel
theorem dX0_inverse_1 : decode cX0_inverse 1 = .ok (.iload_n 1, 1) := by decide +kernel
theorem dX0_inverse_2 : decode cX0_inverse 2 = .ok (.invokevirtual 82, 3) := by decide +kernel
theorem dX0_inverse_5 : decode cX0_inverse 5 = .ok (.ifCond .ne 13, 3) := by decide +kernel
theorem dX0_inverse_8 : decode cX0_inverse 8 = .ok (.new 85, 3) := by decide +kernel
theorem dX0_inverse_11 : decode cX0_inverse 11 = .ok (.dup, 1) := by decide +kernel
theorem dX0_inverse_12 : decode cX0_inverse 12 = .ok (.ldc 126, 2) := by decide +kernel
theorem dX0_inverse_14 : decode cX0_inverse 14 = .ok (.invokespecial 89, 3) := by decide +kernel
theorem dX0_inverse_17 : decode cX0_inverse 17 = .ok (.athrow, 1) := by decide +kernel
theorem dX0_inverse_18 : decode cX0_inverse 18 = .ok (.aload_n 0, 1) := by decide +kernel
theorem dX0_inverse_19 : decode cX0_inverse 19 = .ok (.aload_n 0, 1) := by decide +kernel
theorem dX0_inverse_20 : decode cX0_inverse 20 = .ok (.getfield 31, 3) := by decide +kernel
theorem dX0_inverse_23 : decode cX0_inverse 23 = .ok (.iload_n 1, 1) := by decide +kernel
theorem dX0_inverse_24 : decode cX0_inverse 24 = .ok (.invokevirtual 90, 3) := by decide +kernel
theorem dX0_inverse_27 : decode cX0_inverse 27 = .ok (.aload_n 0, 1) := by decide +kernel
theorem dX0_inverse_28 : decode cX0_inverse 28 = .ok (.getfield 31, 3) := by decide +kernel
theorem dX0_inverse_31 : decode cX0_inverse 31 = .ok (.aload_n 0, 1) := by decide +kernel
theorem dX0_inverse_32 : decode cX0_inverse 32 = .ok (.getfield 31, 3) := by decide +kernel
theorem dX0_inverse_35 : decode cX0_inverse 35 = .ok (.getfield 94, 3) := by decide +kernel
theorem dX0_inverse_38 : decode cX0_inverse 38 = .ok (.aload_n 0, 1) := by decide +kernel
theorem dX0_inverse_39 : decode cX0_inverse 39 = .ok (.getfield 31, 3) := by decide +kernel
theorem dX0_inverse_42 : decode cX0_inverse 42 = .ok (.getfield 98, 3) := by decide +kernel
theorem dX0_inverse_45 : decode cX0_inverse 45 = .ok (.lneg, 1) := by decide +kernel
theorem dX0_inverse_46 : decode cX0_inverse 46 = .ok (.aload_n 0, 1) := by decide +kernel
theorem dX0_inverse_47 : decode cX0_inverse 47 = .ok (.getfield 31, 3) := by decide +kernel
theorem dX0_inverse_50 : decode cX0_inverse 50 = .ok (.getfield 101, 3) := by decide +kernel
theorem dX0_inverse_53 : decode cX0_inverse 53 = .ok (.invokevirtual 110, 3) := by decide +kernel
theorem dX0_inverse_56 : decode cX0_inverse 56 = .ok (.aload_n 0, 1) := by decide +kernel
theorem dX0_inverse_57 : decode cX0_inverse 57 = .ok (.aload_n 0, 1) := by decide +kernel
theorem dX0_inverse_58 : decode cX0_inverse 58 = .ok (.getfield 31, 3) := by decide +kernel
theorem dX0_inverse_61 : decode cX0_inverse 61 = .ok (.invokevirtual 114, 3) := by decide +kernel
theorem dX0_inverse_64 : decode cX0_inverse 64 = .ok (.aload_n 0, 1) := by decide +kernel
theorem dX0_inverse_65 : decode cX0_inverse 65 = .ok (.aload_n 0, 1) := by decide +kernel
theorem dX0_inverse_66 : decode cX0_inverse 66 = .ok (.aload_n 0, 1) := by decide +kernel
theorem dX0_inverse_67 : decode cX0_inverse 67 = .ok (.getfield 31, 3) := by decide +kernel
theorem dX0_inverse_70 : decode cX0_inverse 70 = .ok (.invokevirtual 118, 3) := by decide +kernel
theorem dX0_inverse_73 : decode cX0_inverse 73 = .ok (.invokevirtual 122, 3) := by decide +kernel
theorem dX0_inverse_76 : decode cX0_inverse 76 = .ok (.ireturn, 1) := by decide +kernel
abbrev cX0_power : ByteArray := prog_1_method_8_code
abbrev yX0_power : MethodName := ⟨"ClassGroup", "power", "(II)I"⟩
abbrev wsX0_power : List Cond := .code ⟨"ClassGroup", "power", "(II)I"⟩ prog_1_method_8_code 5 (some .int) :: wT
theorem dX0_power_0 : decode cX0_power 0 = .ok (.aload_n 0, 1) := by decide +kernel
theorem dX0_power_1 : decode cX0_power 1 = .ok (.iload_n 1, 1) := by decide +kernel
theorem dX0_power_2 : decode cX0_power 2 = .ok (.invokevirtual 82, 3) := by decide +kernel
theorem dX0_power_5 : decode cX0_power 5 = .ok (.ifCond .ne 13, 3) := by decide +kernel
theorem dX0_power_8 : decode cX0_power 8 = .ok (.new 85, 3) := by decide +kernel
theorem dX0_power_11 : decode cX0_power 11 = .ok (.dup, 1) := by decide +kernel
theorem dX0_power_12 : decode cX0_power 12 = .ok (.ldc 126, 2) := by decide +kernel
theorem dX0_power_14 : decode cX0_power 14 = .ok (.invokespecial 89, 3) := by decide +kernel
theorem dX0_power_17 : decode cX0_power 17 = .ok (.athrow, 1) := by decide +kernel
theorem dX0_power_18 : decode cX0_power 18 = .ok (.aload_n 0, 1) := by decide +kernel
theorem dX0_power_19 : decode cX0_power 19 = .ok (.aload_n 0, 1) := by decide +kernel
theorem dX0_power_20 : decode cX0_power 20 = .ok (.getfield 31, 3) := by decide +kernel
theorem dX0_power_23 : decode cX0_power 23 = .ok (.aload_n 0, 1) := by decide +kernel
theorem dX0_power_24 : decode cX0_power 24 = .ok (.getfield 73, 3) := by decide +kernel
theorem dX0_power_27 : decode cX0_power 27 = .ok (.invokevirtual 90, 3) := by decide +kernel
theorem dX0_power_30 : decode cX0_power 30 = .ok (.aload_n 0, 1) := by decide +kernel
theorem dX0_power_31 : decode cX0_power 31 = .ok (.aload_n 0, 1) := by decide +kernel
theorem dX0_power_32 : decode cX0_power 32 = .ok (.getfield 35, 3) := by decide +kernel
theorem dX0_power_35 : decode cX0_power 35 = .ok (.iload_n 1, 1) := by decide +kernel
theorem dX0_power_36 : decode cX0_power 36 = .ok (.invokevirtual 90, 3) := by decide +kernel
theorem dX0_power_39 : decode cX0_power 39 = .ok (.iload_n 2, 1) := by decide +kernel
theorem dX0_power_40 : decode cX0_power 40 = .ok (.ifCond .ge 32, 3) := by decide +kernel
theorem dX0_power_43 : decode cX0_power 43 = .ok (.aload_n 0, 1) := by decide +kernel
theorem dX0_power_44 : decode cX0_power 44 = .ok (.getfield 35, 3) := by decide +kernel
theorem dX0_power_47 : decode cX0_power 47 = .ok (.aload_n 0, 1) := by decide +kernel
theorem dX0_power_48 : decode cX0_power 48 = .ok (.getfield 35, 3) := by decide +kernel
theorem dX0_power_51 : decode cX0_power 51 = .ok (.getfield 94, 3) := by decide +kernel
theorem dX0_power_54 : decode cX0_power 54 = .ok (.aload_n 0, 1) := by decide +kernel
theorem dX0_power_55 : decode cX0_power 55 = .ok (.getfield 35, 3) := by decide +kernel
theorem dX0_power_58 : decode cX0_power 58 = .ok (.getfield 98, 3) := by decide +kernel
theorem dX0_power_61 : decode cX0_power 61 = .ok (.lneg, 1) := by decide +kernel
theorem dX0_power_62 : decode cX0_power 62 = .ok (.aload_n 0, 1) := by decide +kernel
theorem dX0_power_63 : decode cX0_power 63 = .ok (.getfield 35, 3) := by decide +kernel
theorem dX0_power_66 : decode cX0_power 66 = .ok (.getfield 101, 3) := by decide +kernel
theorem dX0_power_69 : decode cX0_power 69 = .ok (.invokevirtual 110, 3) := by decide +kernel
theorem dX0_power_72 : decode cX0_power 72 = .ok (.iload_n 2, 1) := by decide +kernel
theorem dX0_power_73 : decode cX0_power 73 = .ok (.i2l, 1) := by decide +kernel
theorem dX0_power_74 : decode cX0_power 74 = .ok (.invokestatic 132, 3) := by decide +kernel
theorem dX0_power_77 : decode cX0_power 77 = .ok (.lstore_n 3, 1) := by decide +kernel
theorem dX0_power_78 : decode cX0_power 78 = .ok (.lload_n 3, 1) := by decide +kernel
theorem dX0_power_79 : decode cX0_power 79 = .ok (.lconst 0, 1) := by decide +kernel
theorem dX0_power_80 : decode cX0_power 80 = .ok (.lcmp, 1) := by decide +kernel
theorem dX0_power_81 : decode cX0_power 81 = .ok (.ifCond .le 58, 3) := by decide +kernel
theorem dX0_power_84 : decode cX0_power 84 = .ok (.lload_n 3, 1) := by decide +kernel
theorem dX0_power_85 : decode cX0_power 85 = .ok (.lconst 1, 1) := by decide +kernel
theorem dX0_power_86 : decode cX0_power 86 = .ok (.land, 1) := by decide +kernel
theorem dX0_power_87 : decode cX0_power 87 = .ok (.lconst 1, 1) := by decide +kernel
theorem dX0_power_88 : decode cX0_power 88 = .ok (.lcmp, 1) := by decide +kernel
theorem dX0_power_89 : decode cX0_power 89 = .ok (.ifCond .ne 23, 3) := by decide +kernel
theorem dX0_power_92 : decode cX0_power 92 = .ok (.aload_n 0, 1) := by decide +kernel
theorem dX0_power_93 : decode cX0_power 93 = .ok (.aload_n 0, 1) := by decide +kernel
theorem dX0_power_94 : decode cX0_power 94 = .ok (.getfield 31, 3) := by decide +kernel
theorem dX0_power_97 : decode cX0_power 97 = .ok (.aload_n 0, 1) := by decide +kernel
theorem dX0_power_98 : decode cX0_power 98 = .ok (.getfield 35, 3) := by decide +kernel
theorem dX0_power_101 : decode cX0_power 101 = .ok (.invokevirtual 138, 3) := by decide +kernel
theorem dX0_power_104 : decode cX0_power 104 = .ok (.aload_n 0, 1) := by decide +kernel
theorem dX0_power_105 : decode cX0_power 105 = .ok (.aload_n 0, 1) := by decide +kernel
theorem dX0_power_106 : decode cX0_power 106 = .ok (.getfield 31, 3) := by decide +kernel
theorem dX0_power_109 : decode cX0_power 109 = .ok (.invokevirtual 114, 3) := by decide +kernel
theorem dX0_power_112 : decode cX0_power 112 = .ok (.aload_n 0, 1) := by decide +kernel
theorem dX0_power_113 : decode cX0_power 113 = .ok (.aload_n 0, 1) := by decide +kernel
theorem dX0_power_114 : decode cX0_power 114 = .ok (.getfield 35, 3) := by decide +kernel
theorem dX0_power_117 : decode cX0_power 117 = .ok (.aload_n 0, 1) := by decide +kernel
theorem dX0_power_118 : decode cX0_power 118 = .ok (.getfield 35, 3) := by decide +kernel
theorem dX0_power_121 : decode cX0_power 121 = .ok (.invokevirtual 138, 3) := by decide +kernel
theorem dX0_power_124 : decode cX0_power 124 = .ok (.aload_n 0, 1) := by decide +kernel
theorem dX0_power_125 : decode cX0_power 125 = .ok (.aload_n 0, 1) := by decide +kernel
theorem dX0_power_126 : decode cX0_power 126 = .ok (.getfield 35, 3) := by decide +kernel
theorem dX0_power_129 : decode cX0_power 129 = .ok (.invokevirtual 114, 3) := by decide +kernel
theorem dX0_power_132 : decode cX0_power 132 = .ok (.lload_n 3, 1) := by decide +kernel
theorem dX0_power_133 : decode cX0_power 133 = .ok (.iconst 1, 1) := by decide +kernel
theorem dX0_power_134 : decode cX0_power 134 = .ok (.lshr, 1) := by decide +kernel
theorem dX0_power_135 : decode cX0_power 135 = .ok (.lstore_n 3, 1) := by decide +kernel
theorem dX0_power_136 : decode cX0_power 136 = .ok (.goto (-58), 3) := by decide +kernel
theorem dX0_power_139 : decode cX0_power 139 = .ok (.aload_n 0, 1) := by decide +kernel
theorem dX0_power_140 : decode cX0_power 140 = .ok (.aload_n 0, 1) := by decide +kernel
theorem dX0_power_141 : decode cX0_power 141 = .ok (.aload_n 0, 1) := by decide +kernel
theorem dX0_power_142 : decode cX0_power 142 = .ok (.getfield 31, 3) := by decide +kernel
theorem dX0_power_145 : decode cX0_power 145 = .ok (.invokevirtual 118, 3) := by decide +kernel
theorem dX0_power_148 : decode cX0_power 148 = .ok (.invokevirtual 122, 3) := by decide +kernel
theorem dX0_power_151 : decode cX0_power 151 = .ok (.ireturn, 1) := by decide +kernel
abbrev cX0_order : ByteArray := prog_1_method_9_code
abbrev yX0_order : MethodName := ⟨"ClassGroup", "order", "(I)I"⟩
abbrev wsX0_order : List Cond := .code ⟨"ClassGroup", "order", "(I)I"⟩ prog_1_method_9_code 2 (some .int) :: wT
theorem dX0_order_0 : decode cX0_order 0 = .ok (.aload_n 0, 1) := by decide +kernel
theorem dX0_order_1 : decode cX0_order 1 = .ok (.iload_n 1, 1) := by decide +kernel
theorem dX0_order_2 : decode cX0_order 2 = .ok (.invokevirtual 82, 3) := by decide +kernel
theorem dX0_order_5 : decode cX0_order 5 = .ok (.ifCond .ne 13, 3) := by decide +kernel
theorem dX0_order_8 : decode cX0_order 8 = .ok (.new 85, 3) := by decide +kernel
theorem dX0_order_11 : decode cX0_order 11 = .ok (.dup, 1) := by decide +kernel
theorem dX0_order_12 : decode cX0_order 12 = .ok (.ldc 126, 2) := by decide +kernel
theorem dX0_order_14 : decode cX0_order 14 = .ok (.invokespecial 89, 3) := by decide +kernel
theorem dX0_order_17 : decode cX0_order 17 = .ok (.athrow, 1) := by decide +kernel
theorem dX0_order_18 : decode cX0_order 18 = .ok (.aload_n 0, 1) := by decide +kernel
theorem dX0_order_19 : decode cX0_order 19 = .ok (.invokevirtual 67, 3) := by decide +kernel
theorem dX0_order_22 : decode cX0_order 22 = .ok (.aload_n 0, 1) := by decide +kernel
theorem dX0_order_23 : decode cX0_order 23 = .ok (.getfield 19, 3) := by decide +kernel
theorem dX0_order_26 : decode cX0_order 26 = .ok (.iload_n 1, 1) := by decide +kernel
theorem dX0_order_27 : decode cX0_order 27 = .ok (.iaload, 1) := by decide +kernel
theorem dX0_order_28 : decode cX0_order 28 = .ok (.ireturn, 1) := by decide +kernel
abbrev cX0_generator : ByteArray := prog_1_method_10_code
abbrev yX0_generator : MethodName := ⟨"ClassGroup", "generator", "(I)I"⟩
abbrev wsX0_generator : List Cond := .code ⟨"ClassGroup", "generator", "(I)I"⟩ prog_1_method_10_code 2 (some .int) :: wT
theorem dX0_generator_0 : decode cX0_generator 0 = .ok (.aload_n 0, 1) := by decide +kernel
theorem dX0_generator_1 : decode cX0_generator 1 = .ok (.invokevirtual 67, 3) := by decide +kernel
theorem dX0_generator_4 : decode cX0_generator 4 = .ok (.aload_n 0, 1) := by decide +kernel
theorem dX0_generator_5 : decode cX0_generator 5 = .ok (.iload_n 1, 1) := by decide +kernel
theorem dX0_generator_6 : decode cX0_generator 6 = .ok (.invokevirtual 142, 3) := by decide +kernel
theorem dX0_generator_9 : decode cX0_generator 9 = .ok (.ifCond .ne 13, 3) := by decide +kernel
theorem dX0_generator_12 : decode cX0_generator 12 = .ok (.new 85, 3) := by decide +kernel
theorem dX0_generator_15 : decode cX0_generator 15 = .ok (.dup, 1) := by decide +kernel
theorem dX0_generator_16 : decode cX0_generator 16 = .ok (.ldc 145, 2) := by decide +kernel
theorem dX0_generator_18 : decode cX0_generator 18 = .ok (.invokespecial 89, 3) := by decide +kernel
theorem dX0_generator_21 : decode cX0_generator 21 = .ok (.athrow, 1) := by decide +kernel
theorem dX0_generator_22 : decode cX0_generator 22 = .ok (.aload_n 0, 1) := by decide +kernel
theorem dX0_generator_23 : decode cX0_generator 23 = .ok (.getfield 13, 3) := by decide +kernel
theorem dX0_generator_26 : decode cX0_generator 26 = .ok (.iload_n 1, 1) := by decide +kernel
theorem dX0_generator_27 : decode cX0_generator 27 = .ok (.iaload, 1) := by decide +kernel
theorem dX0_generator_28 : decode cX0_generator 28 = .ok (.ireturn, 1) := by decide +kernel
abbrev cX0_exponent : ByteArray := prog_1_method_11_code
abbrev yX0_exponent : MethodName := ⟨"ClassGroup", "exponent", "(II)I"⟩
abbrev wsX0_exponent : List Cond := .code ⟨"ClassGroup", "exponent", "(II)I"⟩ prog_1_method_11_code 5 (some .int) :: wT
theorem dX0_exponent_0 : decode cX0_exponent 0 = .ok (.aload_n 0, 1) := by decide +kernel
theorem dX0_exponent_1 : decode cX0_exponent 1 = .ok (.invokevirtual 67, 3) := by decide +kernel
theorem dX0_exponent_4 : decode cX0_exponent 4 = .ok (.aload_n 0, 1) := by decide +kernel
theorem dX0_exponent_5 : decode cX0_exponent 5 = .ok (.iload_n 1, 1) := by decide +kernel
theorem dX0_exponent_6 : decode cX0_exponent 6 = .ok (.invokevirtual 82, 3) := by decide +kernel
theorem dX0_exponent_9 : decode cX0_exponent 9 = .ok (.ifCond .eq 11, 3) := by decide +kernel
theorem dX0_exponent_12 : decode cX0_exponent 12 = .ok (.aload_n 0, 1) := by decide +kernel
theorem dX0_exponent_13 : decode cX0_exponent 13 = .ok (.iload_n 2, 1) := by decide +kernel
theorem dX0_exponent_14 : decode cX0_exponent 14 = .ok (.invokevirtual 142, 3) := by decide +kernel
theorem dX0_exponent_17 : decode cX0_exponent 17 = .ok (.ifCond .ne 13, 3) := by decide +kernel
theorem dX0_exponent_20 : decode cX0_exponent 20 = .ok (.new 85, 3) := by decide +kernel
theorem dX0_exponent_23 : decode cX0_exponent 23 = .ok (.dup, 1) := by decide +kernel
theorem dX0_exponent_24 : decode cX0_exponent 24 = .ok (.ldc 147, 2) := by decide +kernel
theorem dX0_exponent_26 : decode cX0_exponent 26 = .ok (.invokespecial 89, 3) := by decide +kernel
theorem dX0_exponent_29 : decode cX0_exponent 29 = .ok (.athrow, 1) := by decide +kernel
theorem dX0_exponent_30 : decode cX0_exponent 30 = .ok (.aload_n 0, 1) := by decide +kernel
theorem dX0_exponent_31 : decode cX0_exponent 31 = .ok (.getfield 16, 3) := by decide +kernel
theorem dX0_exponent_34 : decode cX0_exponent 34 = .ok (.iload_n 2, 1) := by decide +kernel
theorem dX0_exponent_35 : decode cX0_exponent 35 = .ok (.iaload, 1) := by decide +kernel
theorem dX0_exponent_36 : decode cX0_exponent 36 = .ok (.istore_n 3, 1) := by decide +kernel
theorem dX0_exponent_37 : decode cX0_exponent 37 = .ok (.aload_n 0, 1) := by decide +kernel
theorem dX0_exponent_38 : decode cX0_exponent 38 = .ok (.getfield 16, 3) := by decide +kernel
theorem dX0_exponent_41 : decode cX0_exponent 41 = .ok (.iload_n 2, 1) := by decide +kernel
theorem dX0_exponent_42 : decode cX0_exponent 42 = .ok (.iconst 1, 1) := by decide +kernel
theorem dX0_exponent_43 : decode cX0_exponent 43 = .ok (.iadd, 1) := by decide +kernel
theorem dX0_exponent_44 : decode cX0_exponent 44 = .ok (.iaload, 1) := by decide +kernel
theorem dX0_exponent_45 : decode cX0_exponent 45 = .ok (.istore 4, 2) := by decide +kernel
theorem dX0_exponent_47 : decode cX0_exponent 47 = .ok (.iload_n 3, 1) := by decide +kernel
theorem dX0_exponent_48 : decode cX0_exponent 48 = .ok (.ifCond .eq 8, 3) := by decide +kernel
theorem dX0_exponent_51 : decode cX0_exponent 51 = .ok (.iload 4, 2) := by decide +kernel
theorem dX0_exponent_53 : decode cX0_exponent 53 = .ok (.ifCond .ne 7, 3) := by decide +kernel
theorem dX0_exponent_56 : decode cX0_exponent 56 = .ok (.iconst 0, 1) := by decide +kernel
theorem dX0_exponent_57 : decode cX0_exponent 57 = .ok (.goto 14, 3) := by decide +kernel
theorem dX0_exponent_60 : decode cX0_exponent 60 = .ok (.aload_n 0, 1) := by decide +kernel
theorem dX0_exponent_61 : decode cX0_exponent 61 = .ok (.getfield 22, 3) := by decide +kernel
theorem dX0_exponent_64 : decode cX0_exponent 64 = .ok (.iload_n 1, 1) := by decide +kernel
theorem dX0_exponent_65 : decode cX0_exponent 65 = .ok (.iaload, 1) := by decide +kernel
theorem dX0_exponent_66 : decode cX0_exponent 66 = .ok (.iload 4, 2) := by decide +kernel
theorem dX0_exponent_68 : decode cX0_exponent 68 = .ok (.irem, 1) := by decide +kernel
theorem dX0_exponent_69 : decode cX0_exponent 69 = .ok (.iload_n 3, 1) := by decide +kernel
theorem dX0_exponent_70 : decode cX0_exponent 70 = .ok (.idiv, 1) := by decide +kernel
theorem dX0_exponent_71 : decode cX0_exponent 71 = .ok (.ireturn, 1) := by decide +kernel
