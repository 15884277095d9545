theorem kw_0 : Cond.initialized "ClassGroupLaw" ∈ wT := wT_mem (List.mem_append_right _ (List.mem_of_getElem? (i := 0) rfl)) rfl
theorem kw_1 : Cond.initialized "ClassGroup" ∈ wT := wT_mem (List.mem_append_right _ (List.mem_of_getElem? (i := 1) rfl)) rfl
theorem kw_2 : Cond.initialized "ClassGroup$Form" ∈ wT := wT_mem (List.mem_append_right _ (List.mem_of_getElem? (i := 2) rfl)) rfl
theorem kw_3 : Cond.initialized "ClassGroup$Bezout" ∈ wT := wT_mem (List.mem_append_right _ (List.mem_of_getElem? (i := 3) rfl)) rfl
theorem kw_4 : Cond.initialized "java/lang/Math" ∈ wT := wT_mem (List.mem_append_right _ (List.mem_of_getElem? (i := 4) rfl)) rfl
theorem kw_5 : Cond.initialized "ClassGroupModel" ∈ wT := wT_mem (List.mem_append_right _ (List.mem_of_getElem? (i := 5) rfl)) rfl
theorem kw_6 : Cond.initialized "java/lang/Throwable" ∈ wT := wT_mem (List.mem_append_right _ (List.mem_of_getElem? (i := 6) rfl)) rfl
theorem kw_7 : Cond.initialized "java/lang/Exception" ∈ wT := wT_mem (List.mem_append_right _ (List.mem_of_getElem? (i := 7) rfl)) rfl
theorem kw_8 : Cond.initialized "java/lang/RuntimeException" ∈ wT := wT_mem (List.mem_append_right _ (List.mem_of_getElem? (i := 8) rfl)) rfl
theorem kw_9 : Cond.initialized "java/lang/IllegalArgumentException" ∈ wT := wT_mem (List.mem_append_right _ (List.mem_of_getElem? (i := 9) rfl)) rfl
theorem kw_10 : Cond.initialized "java/util/Arrays" ∈ wT := wT_mem (List.mem_append_right _ (List.mem_of_getElem? (i := 10) rfl)) rfl
theorem kw_11 : Cond.initialized "java/lang/IndexOutOfBoundsException" ∈ wT := wT_mem (List.mem_append_right _ (List.mem_of_getElem? (i := 11) rfl)) rfl
theorem kw_12 : Cond.classLink "ClassGroupLaw" 8 "ClassGroup" ∈ wT := wT_mem (List.mem_append_right _ (List.mem_of_getElem? (i := 12) rfl)) rfl
theorem kw_13 : Cond.instantiable "ClassGroup" 17 ∈ wT := wT_mem (List.mem_append_right _ (List.mem_of_getElem? (i := 13) rfl)) rfl
theorem kw_14 : Cond.methodLink "ClassGroupLaw" 43 ⟨"ClassGroup", "<init>", "()V"⟩ ∈ wT := wT_mem (List.mem_append_right _ (List.mem_of_getElem? (i := 14) rfl)) rfl
theorem kw_15 : Cond.instanceMethod ⟨"ClassGroup", "<init>", "()V"⟩ ∈ wT := wT_mem (List.mem_append_right _ (List.mem_of_getElem? (i := 15) rfl)) rfl
theorem kw_16 : Cond.code ⟨"ClassGroup", "<init>", "()V"⟩ prog_1_method_1_code 1 none ∈ wT := wT_mem (List.mem_append_right _ (List.mem_of_getElem? (i := 16) rfl)) rfl
theorem kw_17 : Cond.methodLink "ClassGroup" 1 ⟨"java/lang/Object", "<init>", "()V"⟩ ∈ wT := wT_mem (List.mem_append_right _ (List.mem_of_getElem? (i := 17) rfl)) rfl
theorem kw_18 : Cond.instanceMethod ⟨"java/lang/Object", "<init>", "()V"⟩ ∈ wT := wT_mem (List.mem_append_right _ (List.mem_of_getElem? (i := 18) rfl)) rfl
theorem kw_19 : Cond.code ⟨"java/lang/Object", "<init>", "()V"⟩ object_method_1_code 1 none ∈ wT := wT_mem (List.mem_append_right _ (List.mem_of_getElem? (i := 19) rfl)) rfl
theorem kw_20 : Cond.classLink "ClassGroup" 28 "ClassGroup$Form" ∈ wT := wT_mem (List.mem_append_right _ (List.mem_of_getElem? (i := 20) rfl)) rfl
theorem kw_21 : Cond.instantiable "ClassGroup$Form" 3 ∈ wT := wT_mem (List.mem_append_right _ (List.mem_of_getElem? (i := 21) rfl)) rfl
theorem kw_23 : Cond.instanceMethod ⟨"ClassGroup$Form", "<init>", "()V"⟩ ∈ wT := wT_mem (List.mem_append_right _ (List.mem_of_getElem? (i := 23) rfl)) rfl
theorem kw_24 : Cond.code ⟨"ClassGroup$Form", "<init>", "()V"⟩ prog_3_method_1_code 1 none ∈ wT := wT_mem (List.mem_append_right _ (List.mem_of_getElem? (i := 24) rfl)) rfl
theorem kw_25 : Cond.methodLink "ClassGroup$Form" 1 ⟨"java/lang/Object", "<init>", "()V"⟩ ∈ wT := wT_mem (List.mem_append_right _ (List.mem_of_getElem? (i := 25) rfl)) rfl
theorem kw_26 : Cond.fieldLink "ClassGroup$Form" 7 "ClassGroup$Form" "a" "J" ∈ wT := wT_mem (List.mem_append_right _ (List.mem_of_getElem? (i := 26) rfl)) rfl
theorem kw_27 : Cond.fieldLink "ClassGroup" 94 "ClassGroup$Form" "a" "J" ∈ wT := wT_mem (List.mem_append_right _ (List.mem_of_getElem? (i := 27) rfl)) rfl
theorem kw_28 : Cond.fieldLink "ClassGroup$Form" 13 "ClassGroup$Form" "b" "J" ∈ wT := wT_mem (List.mem_append_right _ (List.mem_of_getElem? (i := 28) rfl)) rfl
theorem kw_29 : Cond.fieldLink "ClassGroup" 98 "ClassGroup$Form" "b" "J" ∈ wT := wT_mem (List.mem_append_right _ (List.mem_of_getElem? (i := 29) rfl)) rfl
theorem kw_30 : Cond.fieldLink "ClassGroup$Form" 16 "ClassGroup$Form" "c" "J" ∈ wT := wT_mem (List.mem_append_right _ (List.mem_of_getElem? (i := 30) rfl)) rfl
theorem kw_31 : Cond.fieldLink "ClassGroup" 101 "ClassGroup$Form" "c" "J" ∈ wT := wT_mem (List.mem_append_right _ (List.mem_of_getElem? (i := 31) rfl)) rfl
theorem kw_32 : Cond.lays "ClassGroup$Form" "ClassGroup$Form" "a" "J" ∈ wT := wT_mem (List.mem_append_right _ (List.mem_of_getElem? (i := 32) rfl)) rfl
theorem kw_33 : Cond.soleField "ClassGroup$Form" "a" ∈ wT := wT_mem (List.mem_append_right _ (List.mem_of_getElem? (i := 33) rfl)) rfl
theorem kw_34 : Cond.lays "ClassGroup$Form" "ClassGroup$Form" "b" "J" ∈ wT := wT_mem (List.mem_append_right _ (List.mem_of_getElem? (i := 34) rfl)) rfl
theorem kw_35 : Cond.soleField "ClassGroup$Form" "b" ∈ wT := wT_mem (List.mem_append_right _ (List.mem_of_getElem? (i := 35) rfl)) rfl
theorem kw_36 : Cond.lays "ClassGroup$Form" "ClassGroup$Form" "c" "J" ∈ wT := wT_mem (List.mem_append_right _ (List.mem_of_getElem? (i := 36) rfl)) rfl
theorem kw_37 : Cond.soleField "ClassGroup$Form" "c" ∈ wT := wT_mem (List.mem_append_right _ (List.mem_of_getElem? (i := 37) rfl)) rfl
theorem kw_38 : Cond.superclass "ClassGroup$Form" "java/lang/Object" ∈ wT := wT_mem (List.mem_append_right _ (List.mem_of_getElem? (i := 38) rfl)) rfl
theorem kw_39 : Cond.arrayClass .int ∈ wT := wT_mem (List.mem_append_right _ (List.mem_of_getElem? (i := 39) rfl)) rfl
theorem kw_40 : Cond.classLink "ClassGroup" 38 "ClassGroup$Bezout" ∈ wT := wT_mem (List.mem_append_right _ (List.mem_of_getElem? (i := 40) rfl)) rfl
theorem kw_41 : Cond.instantiable "ClassGroup$Bezout" 3 ∈ wT := wT_mem (List.mem_append_right _ (List.mem_of_getElem? (i := 41) rfl)) rfl
theorem kw_43 : Cond.instanceMethod ⟨"ClassGroup$Bezout", "<init>", "()V"⟩ ∈ wT := wT_mem (List.mem_append_right _ (List.mem_of_getElem? (i := 43) rfl)) rfl
theorem kw_44 : Cond.code ⟨"ClassGroup$Bezout", "<init>", "()V"⟩ prog_2_method_1_code 1 none ∈ wT := wT_mem (List.mem_append_right _ (List.mem_of_getElem? (i := 44) rfl)) rfl
theorem kw_45 : Cond.methodLink "ClassGroup$Bezout" 3 ⟨"java/lang/Object", "<init>", "()V"⟩ ∈ wT := wT_mem (List.mem_append_right _ (List.mem_of_getElem? (i := 45) rfl)) rfl
theorem kw_46 : Cond.fieldLink "ClassGroup$Bezout" 9 "ClassGroup$Bezout" "greatest" "J" ∈ wT := wT_mem (List.mem_append_right _ (List.mem_of_getElem? (i := 46) rfl)) rfl
theorem kw_47 : Cond.fieldLink "ClassGroup" 237 "ClassGroup$Bezout" "greatest" "J" ∈ wT := wT_mem (List.mem_append_right _ (List.mem_of_getElem? (i := 47) rfl)) rfl
theorem kw_48 : Cond.fieldLink "ClassGroup$Bezout" 15 "ClassGroup$Bezout" "first" "J" ∈ wT := wT_mem (List.mem_append_right _ (List.mem_of_getElem? (i := 48) rfl)) rfl
theorem kw_49 : Cond.fieldLink "ClassGroup" 231 "ClassGroup$Bezout" "first" "J" ∈ wT := wT_mem (List.mem_append_right _ (List.mem_of_getElem? (i := 49) rfl)) rfl
theorem kw_50 : Cond.fieldLink "ClassGroup$Bezout" 18 "ClassGroup$Bezout" "second" "J" ∈ wT := wT_mem (List.mem_append_right _ (List.mem_of_getElem? (i := 50) rfl)) rfl
theorem kw_51 : Cond.fieldLink "ClassGroup" 234 "ClassGroup$Bezout" "second" "J" ∈ wT := wT_mem (List.mem_append_right _ (List.mem_of_getElem? (i := 51) rfl)) rfl
theorem kw_52 : Cond.lays "ClassGroup$Bezout" "ClassGroup$Bezout" "greatest" "J" ∈ wT := wT_mem (List.mem_append_right _ (List.mem_of_getElem? (i := 52) rfl)) rfl
theorem kw_53 : Cond.soleField "ClassGroup$Bezout" "greatest" ∈ wT := wT_mem (List.mem_append_right _ (List.mem_of_getElem? (i := 53) rfl)) rfl
theorem kw_54 : Cond.lays "ClassGroup$Bezout" "ClassGroup$Bezout" "first" "J" ∈ wT := wT_mem (List.mem_append_right _ (List.mem_of_getElem? (i := 54) rfl)) rfl
theorem kw_55 : Cond.soleField "ClassGroup$Bezout" "first" ∈ wT := wT_mem (List.mem_append_right _ (List.mem_of_getElem? (i := 55) rfl)) rfl
theorem kw_56 : Cond.lays "ClassGroup$Bezout" "ClassGroup$Bezout" "second" "J" ∈ wT := wT_mem (List.mem_append_right _ (List.mem_of_getElem? (i := 56) rfl)) rfl
theorem kw_57 : Cond.soleField "ClassGroup$Bezout" "second" ∈ wT := wT_mem (List.mem_append_right _ (List.mem_of_getElem? (i := 57) rfl)) rfl
theorem kw_58 : Cond.superclass "ClassGroup$Bezout" "java/lang/Object" ∈ wT := wT_mem (List.mem_append_right _ (List.mem_of_getElem? (i := 58) rfl)) rfl
theorem kw_59 : Cond.methodLink "ClassGroup" 45 ⟨"ClassGroup", "become", "(I)V"⟩ ∈ wT := wT_mem (List.mem_append_right _ (List.mem_of_getElem? (i := 59) rfl)) rfl
theorem kw_61 : Cond.instanceMethod ⟨"ClassGroup", "become", "(I)V"⟩ ∈ wT := wT_mem (List.mem_append_right _ (List.mem_of_getElem? (i := 61) rfl)) rfl
theorem kw_62 : Cond.code ⟨"ClassGroup", "become", "(I)V"⟩ prog_1_method_20_code 3 none ∈ wT := wT_mem (List.mem_append_right _ (List.mem_of_getElem? (i := 62) rfl)) rfl
theorem kw_63 : Cond.methodLink "ClassGroup" 170 ⟨"ClassGroup", "rootOf", "(I)I"⟩ ∈ wT := wT_mem (List.mem_append_right _ (List.mem_of_getElem? (i := 63) rfl)) rfl
theorem kw_64 : Cond.static ⟨"ClassGroup", "rootOf", "(I)I"⟩ ∈ wT := wT_mem (List.mem_append_right _ (List.mem_of_getElem? (i := 64) rfl)) rfl
theorem kw_65 : Cond.code ⟨"ClassGroup", "rootOf", "(I)I"⟩ prog_1_method_19_code 3 (some .int) ∈ wT := wT_mem (List.mem_append_right _ (List.mem_of_getElem? (i := 65) rfl)) rfl
theorem kw_66 : Cond.methodLink "ClassGroup" 180 ⟨"ClassGroup", "nameDefinite", "()V"⟩ ∈ wT := wT_mem (List.mem_append_right _ (List.mem_of_getElem? (i := 66) rfl)) rfl
theorem kw_68 : Cond.instanceMethod ⟨"ClassGroup", "nameDefinite", "()V"⟩ ∈ wT := wT_mem (List.mem_append_right _ (List.mem_of_getElem? (i := 68) rfl)) rfl
theorem kw_69 : Cond.code ⟨"ClassGroup", "nameDefinite", "()V"⟩ prog_1_method_21_code 4 none ∈ wT := wT_mem (List.mem_append_right _ (List.mem_of_getElem? (i := 69) rfl)) rfl
theorem kw_70 : Cond.methodLink "ClassGroup" 186 ⟨"ClassGroup", "firstLikeD", "(I)I"⟩ ∈ wT := wT_mem (List.mem_append_right _ (List.mem_of_getElem? (i := 70) rfl)) rfl
theorem kw_72 : Cond.instanceMethod ⟨"ClassGroup", "firstLikeD", "(I)I"⟩ ∈ wT := wT_mem (List.mem_append_right _ (List.mem_of_getElem? (i := 72) rfl)) rfl
theorem kw_73 : Cond.code ⟨"ClassGroup", "firstLikeD", "(I)I"⟩ prog_1_method_26_code 2 (some .int) ∈ wT := wT_mem (List.mem_append_right _ (List.mem_of_getElem? (i := 73) rfl)) rfl
theorem kw_74 : Cond.methodLink "ClassGroup" 189 ⟨"ClassGroup", "keepDefinite", "(III)V"⟩ ∈ wT := wT_mem (List.mem_append_right _ (List.mem_of_getElem? (i := 74) rfl)) rfl
theorem kw_76 : Cond.instanceMethod ⟨"ClassGroup", "keepDefinite", "(III)V"⟩ ∈ wT := wT_mem (List.mem_append_right _ (List.mem_of_getElem? (i := 76) rfl)) rfl
theorem kw_77 : Cond.code ⟨"ClassGroup", "keepDefinite", "(III)V"⟩ prog_1_method_22_code 4 none ∈ wT := wT_mem (List.mem_append_right _ (List.mem_of_getElem? (i := 77) rfl)) rfl
theorem kw_78 : Cond.methodLink "ClassGroup" 154 ⟨"ClassGroup", "isPrimitive", "(III)Z"⟩ ∈ wT := wT_mem (List.mem_append_right _ (List.mem_of_getElem? (i := 78) rfl)) rfl
theorem kw_79 : Cond.static ⟨"ClassGroup", "isPrimitive", "(III)Z"⟩ ∈ wT := wT_mem (List.mem_append_right _ (List.mem_of_getElem? (i := 79) rfl)) rfl
theorem kw_80 : Cond.code ⟨"ClassGroup", "isPrimitive", "(III)Z"⟩ prog_1_method_16_code 3 (some .boolean) ∈ wT := wT_mem (List.mem_append_right _ (List.mem_of_getElem? (i := 80) rfl)) rfl
theorem kw_81 : Cond.methodLink "ClassGroup" 159 ⟨"ClassGroup", "greatestDivisor", "(II)I"⟩ ∈ wT := wT_mem (List.mem_append_right _ (List.mem_of_getElem? (i := 81) rfl)) rfl
theorem kw_82 : Cond.static ⟨"ClassGroup", "greatestDivisor", "(II)I"⟩ ∈ wT := wT_mem (List.mem_append_right _ (List.mem_of_getElem? (i := 82) rfl)) rfl
theorem kw_83 : Cond.code ⟨"ClassGroup", "greatestDivisor", "(II)I"⟩ prog_1_method_17_code 6 (some .int) ∈ wT := wT_mem (List.mem_append_right _ (List.mem_of_getElem? (i := 83) rfl)) rfl
theorem kw_84 : Cond.methodLink "ClassGroup" 162 ⟨"java/lang/Math", "abs", "(I)I"⟩ ∈ wT := wT_mem (List.mem_append_right _ (List.mem_of_getElem? (i := 84) rfl)) rfl
theorem kw_85 : Cond.static ⟨"java/lang/Math", "abs", "(I)I"⟩ ∈ wT := wT_mem (List.mem_append_right _ (List.mem_of_getElem? (i := 85) rfl)) rfl
theorem kw_86 : Cond.code ⟨"java/lang/Math", "abs", "(I)I"⟩ prog_9_method_59_code 1 (some .int) ∈ wT := wT_mem (List.mem_append_right _ (List.mem_of_getElem? (i := 86) rfl)) rfl
theorem kw_87 : Cond.constant "ClassGroup" 164 1000000 ∈ wT := wT_mem (List.mem_append_right _ (List.mem_of_getElem? (i := 87) rfl)) rfl
theorem kw_88 : Cond.methodLink "ClassGroup" 193 ⟨"ClassGroup", "addName", "(II)V"⟩ ∈ wT := wT_mem (List.mem_append_right _ (List.mem_of_getElem? (i := 88) rfl)) rfl
theorem kw_90 : Cond.instanceMethod ⟨"ClassGroup", "addName", "(II)V"⟩ ∈ wT := wT_mem (List.mem_append_right _ (List.mem_of_getElem? (i := 90) rfl)) rfl
theorem kw_91 : Cond.code ⟨"ClassGroup", "addName", "(II)V"⟩ prog_1_method_27_code 5 none ∈ wT := wT_mem (List.mem_append_right _ (List.mem_of_getElem? (i := 91) rfl)) rfl
theorem kw_92 : Cond.methodLink "ClassGroup" 183 ⟨"ClassGroup", "nameIndefinite", "()V"⟩ ∈ wT := wT_mem (List.mem_append_right _ (List.mem_of_getElem? (i := 92) rfl)) rfl
theorem kw_94 : Cond.instanceMethod ⟨"ClassGroup", "nameIndefinite", "()V"⟩ ∈ wT := wT_mem (List.mem_append_right _ (List.mem_of_getElem? (i := 94) rfl)) rfl
theorem kw_95 : Cond.code ⟨"ClassGroup", "nameIndefinite", "()V"⟩ prog_1_method_23_code 4 none ∈ wT := wT_mem (List.mem_append_right _ (List.mem_of_getElem? (i := 95) rfl)) rfl
theorem kw_96 : Cond.methodLink "ClassGroup" 197 ⟨"ClassGroup", "keepIndefinite", "(III)V"⟩ ∈ wT := wT_mem (List.mem_append_right _ (List.mem_of_getElem? (i := 96) rfl)) rfl
theorem kw_98 : Cond.instanceMethod ⟨"ClassGroup", "keepIndefinite", "(III)V"⟩ ∈ wT := wT_mem (List.mem_append_right _ (List.mem_of_getElem? (i := 98) rfl)) rfl
theorem kw_99 : Cond.code ⟨"ClassGroup", "keepIndefinite", "(III)V"⟩ prog_1_method_24_code 4 none ∈ wT := wT_mem (List.mem_append_right _ (List.mem_of_getElem? (i := 99) rfl)) rfl
theorem kw_100 : Cond.methodLink "ClassGroup" 200 ⟨"ClassGroup", "addNameIfLeast", "(III)V"⟩ ∈ wT := wT_mem (List.mem_append_right _ (List.mem_of_getElem? (i := 100) rfl)) rfl
theorem kw_102 : Cond.instanceMethod ⟨"ClassGroup", "addNameIfLeast", "(III)V"⟩ ∈ wT := wT_mem (List.mem_append_right _ (List.mem_of_getElem? (i := 102) rfl)) rfl
theorem kw_103 : Cond.code ⟨"ClassGroup", "addNameIfLeast", "(III)V"⟩ prog_1_method_25_code 4 none ∈ wT := wT_mem (List.mem_append_right _ (List.mem_of_getElem? (i := 103) rfl)) rfl
theorem kw_104 : Cond.methodLink "ClassGroup" 110 ⟨"ClassGroup$Form", "set", "(JJJ)V"⟩ ∈ wT := wT_mem (List.mem_append_right _ (List.mem_of_getElem? (i := 104) rfl)) rfl
theorem kw_105 : Cond.instanceMethod ⟨"ClassGroup$Form", "set", "(JJJ)V"⟩ ∈ wT := wT_mem (List.mem_append_right _ (List.mem_of_getElem? (i := 105) rfl)) rfl
theorem kw_106 : Cond.selects "ClassGroup$Form" ⟨"ClassGroup$Form", "set", "(JJJ)V"⟩ ⟨"ClassGroup$Form", "set", "(JJJ)V"⟩ ∈ wT := wT_mem (List.mem_append_right _ (List.mem_of_getElem? (i := 106) rfl)) rfl
theorem kw_107 : Cond.code ⟨"ClassGroup$Form", "set", "(JJJ)V"⟩ prog_3_method_2_code 7 none ∈ wT := wT_mem (List.mem_append_right _ (List.mem_of_getElem? (i := 107) rfl)) rfl
theorem kw_108 : Cond.methodLink "ClassGroup" 203 ⟨"ClassGroup", "isLeastOfCycle", "(LClassGroup$Form;)Z"⟩ ∈ wT := wT_mem (List.mem_append_right _ (List.mem_of_getElem? (i := 108) rfl)) rfl
theorem kw_110 : Cond.instanceMethod ⟨"ClassGroup", "isLeastOfCycle", "(LClassGroup$Form;)Z"⟩ ∈ wT := wT_mem (List.mem_append_right _ (List.mem_of_getElem? (i := 110) rfl)) rfl
theorem kw_111 : Cond.code ⟨"ClassGroup", "isLeastOfCycle", "(LClassGroup$Form;)Z"⟩ prog_1_method_34_code 5 (some .boolean) ∈ wT := wT_mem (List.mem_append_right _ (List.mem_of_getElem? (i := 111) rfl)) rfl
theorem kw_112 : Cond.methodLink "ClassGroup" 221 ⟨"ClassGroup", "keyOf", "(LClassGroup$Form;)I"⟩ ∈ wT := wT_mem (List.mem_append_right _ (List.mem_of_getElem? (i := 112) rfl)) rfl
theorem kw_113 : Cond.static ⟨"ClassGroup", "keyOf", "(LClassGroup$Form;)I"⟩ ∈ wT := wT_mem (List.mem_append_right _ (List.mem_of_getElem? (i := 113) rfl)) rfl
theorem kw_114 : Cond.code ⟨"ClassGroup", "keyOf", "(LClassGroup$Form;)I"⟩ prog_1_method_29_code 1 (some .int) ∈ wT := wT_mem (List.mem_append_right _ (List.mem_of_getElem? (i := 114) rfl)) rfl
theorem kw_115 : Cond.methodLink "ClassGroup" 215 ⟨"ClassGroup", "step", "(LClassGroup$Form;)V"⟩ ∈ wT := wT_mem (List.mem_append_right _ (List.mem_of_getElem? (i := 115) rfl)) rfl
theorem kw_117 : Cond.instanceMethod ⟨"ClassGroup", "step", "(LClassGroup$Form;)V"⟩ ∈ wT := wT_mem (List.mem_append_right _ (List.mem_of_getElem? (i := 117) rfl)) rfl
theorem kw_118 : Cond.code ⟨"ClassGroup", "step", "(LClassGroup$Form;)V"⟩ prog_1_method_33_code 8 none ∈ wT := wT_mem (List.mem_append_right _ (List.mem_of_getElem? (i := 118) rfl)) rfl
theorem kw_119 : Cond.methodLink "ClassGroup" 132 ⟨"java/lang/Math", "abs", "(J)J"⟩ ∈ wT := wT_mem (List.mem_append_right _ (List.mem_of_getElem? (i := 119) rfl)) rfl
theorem kw_120 : Cond.static ⟨"java/lang/Math", "abs", "(J)J"⟩ ∈ wT := wT_mem (List.mem_append_right _ (List.mem_of_getElem? (i := 120) rfl)) rfl
theorem kw_121 : Cond.code ⟨"java/lang/Math", "abs", "(J)J"⟩ prog_9_method_61_code 2 (some .long) ∈ wT := wT_mem (List.mem_append_right _ (List.mem_of_getElem? (i := 121) rfl)) rfl
theorem kw_122 : Cond.constantLong "ClassGroup" 210 2 ∈ wT := wT_mem (List.mem_append_right _ (List.mem_of_getElem? (i := 122) rfl)) rfl
theorem kw_123 : Cond.methodLink "ClassGroup" 218 ⟨"java/lang/Math", "floorMod", "(JJ)J"⟩ ∈ wT := wT_mem (List.mem_append_right _ (List.mem_of_getElem? (i := 123) rfl)) rfl
theorem kw_124 : Cond.static ⟨"java/lang/Math", "floorMod", "(JJ)J"⟩ ∈ wT := wT_mem (List.mem_append_right _ (List.mem_of_getElem? (i := 124) rfl)) rfl
theorem kw_125 : Cond.code ⟨"java/lang/Math", "floorMod", "(JJ)J"⟩ prog_9_method_52_code 6 (some .long) ∈ wT := wT_mem (List.mem_append_right _ (List.mem_of_getElem? (i := 125) rfl)) rfl
theorem kw_126 : Cond.constantLong "ClassGroup" 152 4 ∈ wT := wT_mem (List.mem_append_right _ (List.mem_of_getElem? (i := 126) rfl)) rfl
theorem kw_127 : Cond.methodLink "ClassGroup" 114 ⟨"ClassGroup", "reduce", "(LClassGroup$Form;)V"⟩ ∈ wT := wT_mem (List.mem_append_right _ (List.mem_of_getElem? (i := 127) rfl)) rfl
theorem kw_129 : Cond.instanceMethod ⟨"ClassGroup", "reduce", "(LClassGroup$Form;)V"⟩ ∈ wT := wT_mem (List.mem_append_right _ (List.mem_of_getElem? (i := 129) rfl)) rfl
theorem kw_130 : Cond.code ⟨"ClassGroup", "reduce", "(LClassGroup$Form;)V"⟩ prog_1_method_32_code 3 none ∈ wT := wT_mem (List.mem_append_right _ (List.mem_of_getElem? (i := 130) rfl)) rfl
theorem kw_131 : Cond.methodLink "ClassGroup" 212 ⟨"ClassGroup", "isReduced", "(LClassGroup$Form;)Z"⟩ ∈ wT := wT_mem (List.mem_append_right _ (List.mem_of_getElem? (i := 131) rfl)) rfl
theorem kw_133 : Cond.instanceMethod ⟨"ClassGroup", "isReduced", "(LClassGroup$Form;)Z"⟩ ∈ wT := wT_mem (List.mem_append_right _ (List.mem_of_getElem? (i := 133) rfl)) rfl
theorem kw_134 : Cond.code ⟨"ClassGroup", "isReduced", "(LClassGroup$Form;)Z"⟩ prog_1_method_31_code 4 (some .boolean) ∈ wT := wT_mem (List.mem_append_right _ (List.mem_of_getElem? (i := 134) rfl)) rfl
theorem kw_135 : Cond.methodLink "ClassGroup" 118 ⟨"ClassGroup", "leastKey", "(LClassGroup$Form;)I"⟩ ∈ wT := wT_mem (List.mem_append_right _ (List.mem_of_getElem? (i := 135) rfl)) rfl
theorem kw_137 : Cond.instanceMethod ⟨"ClassGroup", "leastKey", "(LClassGroup$Form;)I"⟩ ∈ wT := wT_mem (List.mem_append_right _ (List.mem_of_getElem? (i := 137) rfl)) rfl
theorem kw_138 : Cond.code ⟨"ClassGroup", "leastKey", "(LClassGroup$Form;)I"⟩ prog_1_method_35_code 6 (some .int) ∈ wT := wT_mem (List.mem_append_right _ (List.mem_of_getElem? (i := 138) rfl)) rfl
theorem kw_139 : Cond.methodLink "ClassGroup" 224 ⟨"java/lang/Math", "min", "(II)I"⟩ ∈ wT := wT_mem (List.mem_append_right _ (List.mem_of_getElem? (i := 139) rfl)) rfl
theorem kw_140 : Cond.static ⟨"java/lang/Math", "min", "(II)I"⟩ ∈ wT := wT_mem (List.mem_append_right _ (List.mem_of_getElem? (i := 140) rfl)) rfl
theorem kw_141 : Cond.code ⟨"java/lang/Math", "min", "(II)I"⟩ prog_9_method_69_code 2 (some .int) ∈ wT := wT_mem (List.mem_append_right _ (List.mem_of_getElem? (i := 141) rfl)) rfl
theorem kw_142 : Cond.methodLink "ClassGroup" 122 ⟨"ClassGroup", "classAt", "(I)I"⟩ ∈ wT := wT_mem (List.mem_append_right _ (List.mem_of_getElem? (i := 142) rfl)) rfl
theorem kw_144 : Cond.instanceMethod ⟨"ClassGroup", "classAt", "(I)I"⟩ ∈ wT := wT_mem (List.mem_append_right _ (List.mem_of_getElem? (i := 144) rfl)) rfl
theorem kw_145 : Cond.code ⟨"ClassGroup", "classAt", "(I)I"⟩ prog_1_method_30_code 4 (some .int) ∈ wT := wT_mem (List.mem_append_right _ (List.mem_of_getElem? (i := 145) rfl)) rfl
theorem kw_146 : Cond.methodLink "ClassGroup" 82 ⟨"ClassGroup", "isClass", "(I)Z"⟩ ∈ wT := wT_mem (List.mem_append_right _ (List.mem_of_getElem? (i := 146) rfl)) rfl
theorem kw_148 : Cond.instanceMethod ⟨"ClassGroup", "isClass", "(I)Z"⟩ ∈ wT := wT_mem (List.mem_append_right _ (List.mem_of_getElem? (i := 148) rfl)) rfl
theorem kw_149 : Cond.code ⟨"ClassGroup", "isClass", "(I)Z"⟩ prog_1_method_12_code 2 (some .boolean) ∈ wT := wT_mem (List.mem_append_right _ (List.mem_of_getElem? (i := 149) rfl)) rfl
theorem kw_150 : Cond.fieldLink "ClassGroup" 64 "ClassGroup" "d" "I" ∈ wT := wT_mem (List.mem_append_right _ (List.mem_of_getElem? (i := 150) rfl)) rfl
theorem kw_151 : Cond.fieldLink "ClassGroup" 173 "ClassGroup" "root" "I" ∈ wT := wT_mem (List.mem_append_right _ (List.mem_of_getElem? (i := 151) rfl)) rfl
theorem kw_152 : Cond.fieldLink "ClassGroup" 60 "ClassGroup" "classes" "I" ∈ wT := wT_mem (List.mem_append_right _ (List.mem_of_getElem? (i := 152) rfl)) rfl
theorem kw_153 : Cond.fieldLink "ClassGroup" 79 "ClassGroup" "reducedForms" "I" ∈ wT := wT_mem (List.mem_append_right _ (List.mem_of_getElem? (i := 153) rfl)) rfl
theorem kw_154 : Cond.fieldLink "ClassGroup" 73 "ClassGroup" "principal" "I" ∈ wT := wT_mem (List.mem_append_right _ (List.mem_of_getElem? (i := 154) rfl)) rfl
theorem kw_155 : Cond.fieldLink "ClassGroup" 9 "ClassGroup" "names" "[I" ∈ wT := wT_mem (List.mem_append_right _ (List.mem_of_getElem? (i := 155) rfl)) rfl
theorem kw_156 : Cond.fieldLink "ClassGroup" 176 "ClassGroup" "groupKnown" "Z" ∈ wT := wT_mem (List.mem_append_right _ (List.mem_of_getElem? (i := 156) rfl)) rfl
theorem kw_157 : Cond.fieldLink "ClassGroup" 76 "ClassGroup" "greatestOrder" "I" ∈ wT := wT_mem (List.mem_append_right _ (List.mem_of_getElem? (i := 157) rfl)) rfl
theorem kw_158 : Cond.fieldLink "ClassGroup" 70 "ClassGroup" "generatorCount" "I" ∈ wT := wT_mem (List.mem_append_right _ (List.mem_of_getElem? (i := 158) rfl)) rfl
theorem kw_159 : Cond.fieldLink "ClassGroup" 13 "ClassGroup" "generators" "[I" ∈ wT := wT_mem (List.mem_append_right _ (List.mem_of_getElem? (i := 159) rfl)) rfl
theorem kw_160 : Cond.fieldLink "ClassGroup" 16 "ClassGroup" "strides" "[I" ∈ wT := wT_mem (List.mem_append_right _ (List.mem_of_getElem? (i := 160) rfl)) rfl
theorem kw_161 : Cond.fieldLink "ClassGroup" 19 "ClassGroup" "orders" "[I" ∈ wT := wT_mem (List.mem_append_right _ (List.mem_of_getElem? (i := 161) rfl)) rfl
theorem kw_162 : Cond.fieldLink "ClassGroup" 22 "ClassGroup" "codes" "[I" ∈ wT := wT_mem (List.mem_append_right _ (List.mem_of_getElem? (i := 162) rfl)) rfl
theorem kw_163 : Cond.fieldLink "ClassGroup" 25 "ClassGroup" "elements" "[I" ∈ wT := wT_mem (List.mem_append_right _ (List.mem_of_getElem? (i := 163) rfl)) rfl
theorem kw_164 : Cond.fieldLink "ClassGroup" 31 "ClassGroup" "one" "LClassGroup$Form;" ∈ wT := wT_mem (List.mem_append_right _ (List.mem_of_getElem? (i := 164) rfl)) rfl
theorem kw_165 : Cond.fieldLink "ClassGroup" 35 "ClassGroup" "two" "LClassGroup$Form;" ∈ wT := wT_mem (List.mem_append_right _ (List.mem_of_getElem? (i := 165) rfl)) rfl
theorem kw_166 : Cond.fieldLink "ClassGroup" 41 "ClassGroup" "bezout" "LClassGroup$Bezout;" ∈ wT := wT_mem (List.mem_append_right _ (List.mem_of_getElem? (i := 166) rfl)) rfl
theorem kw_167 : Cond.lays "ClassGroup" "ClassGroup" "d" "I" ∈ wT := wT_mem (List.mem_append_right _ (List.mem_of_getElem? (i := 167) rfl)) rfl
theorem kw_168 : Cond.soleField "ClassGroup" "d" ∈ wT := wT_mem (List.mem_append_right _ (List.mem_of_getElem? (i := 168) rfl)) rfl
theorem kw_169 : Cond.lays "ClassGroup" "ClassGroup" "root" "I" ∈ wT := wT_mem (List.mem_append_right _ (List.mem_of_getElem? (i := 169) rfl)) rfl
theorem kw_170 : Cond.soleField "ClassGroup" "root" ∈ wT := wT_mem (List.mem_append_right _ (List.mem_of_getElem? (i := 170) rfl)) rfl
theorem kw_171 : Cond.lays "ClassGroup" "ClassGroup" "classes" "I" ∈ wT := wT_mem (List.mem_append_right _ (List.mem_of_getElem? (i := 171) rfl)) rfl
theorem kw_172 : Cond.soleField "ClassGroup" "classes" ∈ wT := wT_mem (List.mem_append_right _ (List.mem_of_getElem? (i := 172) rfl)) rfl
theorem kw_173 : Cond.lays "ClassGroup" "ClassGroup" "reducedForms" "I" ∈ wT := wT_mem (List.mem_append_right _ (List.mem_of_getElem? (i := 173) rfl)) rfl
theorem kw_174 : Cond.soleField "ClassGroup" "reducedForms" ∈ wT := wT_mem (List.mem_append_right _ (List.mem_of_getElem? (i := 174) rfl)) rfl
theorem kw_175 : Cond.lays "ClassGroup" "ClassGroup" "principal" "I" ∈ wT := wT_mem (List.mem_append_right _ (List.mem_of_getElem? (i := 175) rfl)) rfl
theorem kw_176 : Cond.soleField "ClassGroup" "principal" ∈ wT := wT_mem (List.mem_append_right _ (List.mem_of_getElem? (i := 176) rfl)) rfl
theorem kw_177 : Cond.laysFinal "ClassGroup" "ClassGroup" "names" "[I" ∈ wT := wT_mem (List.mem_append_right _ (List.mem_of_getElem? (i := 177) rfl)) rfl
theorem kw_178 : Cond.soleField "ClassGroup" "names" ∈ wT := wT_mem (List.mem_append_right _ (List.mem_of_getElem? (i := 178) rfl)) rfl
theorem kw_179 : Cond.lays "ClassGroup" "ClassGroup" "groupKnown" "Z" ∈ wT := wT_mem (List.mem_append_right _ (List.mem_of_getElem? (i := 179) rfl)) rfl
theorem kw_180 : Cond.soleField "ClassGroup" "groupKnown" ∈ wT := wT_mem (List.mem_append_right _ (List.mem_of_getElem? (i := 180) rfl)) rfl
theorem kw_181 : Cond.lays "ClassGroup" "ClassGroup" "greatestOrder" "I" ∈ wT := wT_mem (List.mem_append_right _ (List.mem_of_getElem? (i := 181) rfl)) rfl
theorem kw_182 : Cond.soleField "ClassGroup" "greatestOrder" ∈ wT := wT_mem (List.mem_append_right _ (List.mem_of_getElem? (i := 182) rfl)) rfl
theorem kw_183 : Cond.lays "ClassGroup" "ClassGroup" "generatorCount" "I" ∈ wT := wT_mem (List.mem_append_right _ (List.mem_of_getElem? (i := 183) rfl)) rfl
theorem kw_184 : Cond.soleField "ClassGroup" "generatorCount" ∈ wT := wT_mem (List.mem_append_right _ (List.mem_of_getElem? (i := 184) rfl)) rfl
theorem kw_185 : Cond.laysFinal "ClassGroup" "ClassGroup" "generators" "[I" ∈ wT := wT_mem (List.mem_append_right _ (List.mem_of_getElem? (i := 185) rfl)) rfl
theorem kw_186 : Cond.soleField "ClassGroup" "generators" ∈ wT := wT_mem (List.mem_append_right _ (List.mem_of_getElem? (i := 186) rfl)) rfl
theorem kw_187 : Cond.laysFinal "ClassGroup" "ClassGroup" "strides" "[I" ∈ wT := wT_mem (List.mem_append_right _ (List.mem_of_getElem? (i := 187) rfl)) rfl
theorem kw_188 : Cond.soleField "ClassGroup" "strides" ∈ wT := wT_mem (List.mem_append_right _ (List.mem_of_getElem? (i := 188) rfl)) rfl
theorem kw_189 : Cond.laysFinal "ClassGroup" "ClassGroup" "orders" "[I" ∈ wT := wT_mem (List.mem_append_right _ (List.mem_of_getElem? (i := 189) rfl)) rfl
theorem kw_190 : Cond.soleField "ClassGroup" "orders" ∈ wT := wT_mem (List.mem_append_right _ (List.mem_of_getElem? (i := 190) rfl)) rfl
theorem kw_191 : Cond.laysFinal "ClassGroup" "ClassGroup" "codes" "[I" ∈ wT := wT_mem (List.mem_append_right _ (List.mem_of_getElem? (i := 191) rfl)) rfl
theorem kw_192 : Cond.soleField "ClassGroup" "codes" ∈ wT := wT_mem (List.mem_append_right _ (List.mem_of_getElem? (i := 192) rfl)) rfl
theorem kw_193 : Cond.laysFinal "ClassGroup" "ClassGroup" "elements" "[I" ∈ wT := wT_mem (List.mem_append_right _ (List.mem_of_getElem? (i := 193) rfl)) rfl
theorem kw_194 : Cond.soleField "ClassGroup" "elements" ∈ wT := wT_mem (List.mem_append_right _ (List.mem_of_getElem? (i := 194) rfl)) rfl
theorem kw_195 : Cond.laysFinal "ClassGroup" "ClassGroup" "one" "LClassGroup$Form;" ∈ wT := wT_mem (List.mem_append_right _ (List.mem_of_getElem? (i := 195) rfl)) rfl
theorem kw_196 : Cond.soleField "ClassGroup" "one" ∈ wT := wT_mem (List.mem_append_right _ (List.mem_of_getElem? (i := 196) rfl)) rfl
theorem kw_197 : Cond.laysFinal "ClassGroup" "ClassGroup" "two" "LClassGroup$Form;" ∈ wT := wT_mem (List.mem_append_right _ (List.mem_of_getElem? (i := 197) rfl)) rfl
theorem kw_198 : Cond.soleField "ClassGroup" "two" ∈ wT := wT_mem (List.mem_append_right _ (List.mem_of_getElem? (i := 198) rfl)) rfl
theorem kw_199 : Cond.laysFinal "ClassGroup" "ClassGroup" "bezout" "LClassGroup$Bezout;" ∈ wT := wT_mem (List.mem_append_right _ (List.mem_of_getElem? (i := 199) rfl)) rfl
theorem kw_200 : Cond.soleField "ClassGroup" "bezout" ∈ wT := wT_mem (List.mem_append_right _ (List.mem_of_getElem? (i := 200) rfl)) rfl
theorem kw_201 : Cond.superclass "ClassGroup" "java/lang/Object" ∈ wT := wT_mem (List.mem_append_right _ (List.mem_of_getElem? (i := 201) rfl)) rfl
theorem kw_202 : Cond.methodLink "ClassGroupLaw" 57 ⟨"ClassGroup", "count", "(I)I"⟩ ∈ wT := wT_mem (List.mem_append_right _ (List.mem_of_getElem? (i := 202) rfl)) rfl
theorem kw_203 : Cond.instanceMethod ⟨"ClassGroup", "count", "(I)I"⟩ ∈ wT := wT_mem (List.mem_append_right _ (List.mem_of_getElem? (i := 203) rfl)) rfl
theorem kw_204 : Cond.selects "ClassGroup" ⟨"ClassGroup", "count", "(I)I"⟩ ⟨"ClassGroup", "count", "(I)I"⟩ ∈ wT := wT_mem (List.mem_append_right _ (List.mem_of_getElem? (i := 204) rfl)) rfl
theorem kw_205 : Cond.code ⟨"ClassGroup", "count", "(I)I"⟩ prog_1_method_3_code 2 (some .int) ∈ wT := wT_mem (List.mem_append_right _ (List.mem_of_getElem? (i := 205) rfl)) rfl
theorem kw_206 : Cond.methodLink "ClassGroup" 67 ⟨"ClassGroup", "learnGroup", "()V"⟩ ∈ wT := wT_mem (List.mem_append_right _ (List.mem_of_getElem? (i := 206) rfl)) rfl
theorem kw_208 : Cond.instanceMethod ⟨"ClassGroup", "learnGroup", "()V"⟩ ∈ wT := wT_mem (List.mem_append_right _ (List.mem_of_getElem? (i := 208) rfl)) rfl
theorem kw_209 : Cond.code ⟨"ClassGroup", "learnGroup", "()V"⟩ prog_1_method_38_code 3 none ∈ wT := wT_mem (List.mem_append_right _ (List.mem_of_getElem? (i := 209) rfl)) rfl
theorem kw_210 : Cond.methodLink "ClassGroup" 240 ⟨"ClassGroup", "learnOrders", "()V"⟩ ∈ wT := wT_mem (List.mem_append_right _ (List.mem_of_getElem? (i := 210) rfl)) rfl
theorem kw_212 : Cond.instanceMethod ⟨"ClassGroup", "learnOrders", "()V"⟩ ∈ wT := wT_mem (List.mem_append_right _ (List.mem_of_getElem? (i := 212) rfl)) rfl
theorem kw_213 : Cond.code ⟨"ClassGroup", "learnOrders", "()V"⟩ prog_1_method_39_code 2 none ∈ wT := wT_mem (List.mem_append_right _ (List.mem_of_getElem? (i := 213) rfl)) rfl
theorem kw_214 : Cond.methodLink "ClassGroup" 243 ⟨"java/util/Arrays", "fill", "([II)V"⟩ ∈ wT := wT_mem (List.mem_append_right _ (List.mem_of_getElem? (i := 214) rfl)) rfl
theorem kw_215 : Cond.static ⟨"java/util/Arrays", "fill", "([II)V"⟩ ∈ wT := wT_mem (List.mem_append_right _ (List.mem_of_getElem? (i := 215) rfl)) rfl
theorem kw_216 : Cond.code ⟨"java/util/Arrays", "fill", "([II)V"⟩ prog_13_method_103_code 4 none ∈ wT := wT_mem (List.mem_append_right _ (List.mem_of_getElem? (i := 216) rfl)) rfl
theorem kw_217 : Cond.methodLink "ClassGroup" 255 ⟨"ClassGroup", "learnOrdersOfPowers", "(I)V"⟩ ∈ wT := wT_mem (List.mem_append_right _ (List.mem_of_getElem? (i := 217) rfl)) rfl
theorem kw_219 : Cond.instanceMethod ⟨"ClassGroup", "learnOrdersOfPowers", "(I)V"⟩ ∈ wT := wT_mem (List.mem_append_right _ (List.mem_of_getElem? (i := 219) rfl)) rfl
theorem kw_220 : Cond.code ⟨"ClassGroup", "learnOrdersOfPowers", "(I)V"⟩ prog_1_method_40_code 5 none ∈ wT := wT_mem (List.mem_append_right _ (List.mem_of_getElem? (i := 220) rfl)) rfl
theorem kw_221 : Cond.methodLink "ClassGroup" 128 ⟨"ClassGroup", "multiply", "(II)I"⟩ ∈ wT := wT_mem (List.mem_append_right _ (List.mem_of_getElem? (i := 221) rfl)) rfl
theorem kw_223 : Cond.instanceMethod ⟨"ClassGroup", "multiply", "(II)I"⟩ ∈ wT := wT_mem (List.mem_append_right _ (List.mem_of_getElem? (i := 223) rfl)) rfl
theorem kw_224 : Cond.code ⟨"ClassGroup", "multiply", "(II)I"⟩ prog_1_method_36_code 3 (some .int) ∈ wT := wT_mem (List.mem_append_right _ (List.mem_of_getElem? (i := 224) rfl)) rfl
theorem kw_225 : Cond.methodLink "ClassGroup" 90 ⟨"ClassGroup", "setToName", "(LClassGroup$Form;I)V"⟩ ∈ wT := wT_mem (List.mem_append_right _ (List.mem_of_getElem? (i := 225) rfl)) rfl
theorem kw_227 : Cond.instanceMethod ⟨"ClassGroup", "setToName", "(LClassGroup$Form;I)V"⟩ ∈ wT := wT_mem (List.mem_append_right _ (List.mem_of_getElem? (i := 227) rfl)) rfl
theorem kw_228 : Cond.code ⟨"ClassGroup", "setToName", "(LClassGroup$Form;I)V"⟩ prog_1_method_28_code 6 none ∈ wT := wT_mem (List.mem_append_right _ (List.mem_of_getElem? (i := 228) rfl)) rfl
theorem kw_229 : Cond.methodLink "ClassGroup" 207 ⟨"java/lang/Math", "floorDiv", "(II)I"⟩ ∈ wT := wT_mem (List.mem_append_right _ (List.mem_of_getElem? (i := 229) rfl)) rfl
theorem kw_230 : Cond.static ⟨"java/lang/Math", "floorDiv", "(II)I"⟩ ∈ wT := wT_mem (List.mem_append_right _ (List.mem_of_getElem? (i := 230) rfl)) rfl
theorem kw_231 : Cond.code ⟨"java/lang/Math", "floorDiv", "(II)I"⟩ prog_9_method_47_code 3 (some .int) ∈ wT := wT_mem (List.mem_append_right _ (List.mem_of_getElem? (i := 231) rfl)) rfl
theorem kw_232 : Cond.methodLink "ClassGroup" 138 ⟨"ClassGroup", "compose", "(LClassGroup$Form;LClassGroup$Form;)V"⟩ ∈ wT := wT_mem (List.mem_append_right _ (List.mem_of_getElem? (i := 232) rfl)) rfl
theorem kw_234 : Cond.instanceMethod ⟨"ClassGroup", "compose", "(LClassGroup$Form;LClassGroup$Form;)V"⟩ ∈ wT := wT_mem (List.mem_append_right _ (List.mem_of_getElem? (i := 234) rfl)) rfl
theorem kw_235 : Cond.code ⟨"ClassGroup", "compose", "(LClassGroup$Form;LClassGroup$Form;)V"⟩ prog_1_method_37_code 19 none ∈ wT := wT_mem (List.mem_append_right _ (List.mem_of_getElem? (i := 235) rfl)) rfl
theorem kw_236 : Cond.methodLink "ClassGroup" 227 ⟨"ClassGroup$Bezout", "solve", "(JJ)V"⟩ ∈ wT := wT_mem (List.mem_append_right _ (List.mem_of_getElem? (i := 236) rfl)) rfl
theorem kw_237 : Cond.instanceMethod ⟨"ClassGroup$Bezout", "solve", "(JJ)V"⟩ ∈ wT := wT_mem (List.mem_append_right _ (List.mem_of_getElem? (i := 237) rfl)) rfl
theorem kw_238 : Cond.selects "ClassGroup$Bezout" ⟨"ClassGroup$Bezout", "solve", "(JJ)V"⟩ ⟨"ClassGroup$Bezout", "solve", "(JJ)V"⟩ ∈ wT := wT_mem (List.mem_append_right _ (List.mem_of_getElem? (i := 238) rfl)) rfl
theorem kw_239 : Cond.code ⟨"ClassGroup$Bezout", "solve", "(JJ)V"⟩ prog_2_method_2_code 20 none ∈ wT := wT_mem (List.mem_append_right _ (List.mem_of_getElem? (i := 239) rfl)) rfl
theorem kw_240 : Cond.constant "ClassGroup$Bezout" 21 1000000 ∈ wT := wT_mem (List.mem_append_right _ (List.mem_of_getElem? (i := 240) rfl)) rfl
theorem kw_241 : Cond.methodLink "ClassGroup" 258 ⟨"java/lang/Math", "max", "(II)I"⟩ ∈ wT := wT_mem (List.mem_append_right _ (List.mem_of_getElem? (i := 241) rfl)) rfl
theorem kw_242 : Cond.static ⟨"java/lang/Math", "max", "(II)I"⟩ ∈ wT := wT_mem (List.mem_append_right _ (List.mem_of_getElem? (i := 242) rfl)) rfl
theorem kw_243 : Cond.code ⟨"java/lang/Math", "max", "(II)I"⟩ prog_9_method_65_code 2 (some .int) ∈ wT := wT_mem (List.mem_append_right _ (List.mem_of_getElem? (i := 243) rfl)) rfl
theorem kw_244 : Cond.methodLink "ClassGroup" 249 ⟨"ClassGroup", "nextGenerator", "(I)I"⟩ ∈ wT := wT_mem (List.mem_append_right _ (List.mem_of_getElem? (i := 244) rfl)) rfl
theorem kw_246 : Cond.instanceMethod ⟨"ClassGroup", "nextGenerator", "(I)I"⟩ ∈ wT := wT_mem (List.mem_append_right _ (List.mem_of_getElem? (i := 246) rfl)) rfl
theorem kw_247 : Cond.code ⟨"ClassGroup", "nextGenerator", "(I)I"⟩ prog_1_method_41_code 5 (some .int) ∈ wT := wT_mem (List.mem_append_right _ (List.mem_of_getElem? (i := 247) rfl)) rfl
theorem kw_248 : Cond.methodLink "ClassGroup" 261 ⟨"ClassGroup", "isIndependent", "(I)Z"⟩ ∈ wT := wT_mem (List.mem_append_right _ (List.mem_of_getElem? (i := 248) rfl)) rfl
theorem kw_250 : Cond.instanceMethod ⟨"ClassGroup", "isIndependent", "(I)Z"⟩ ∈ wT := wT_mem (List.mem_append_right _ (List.mem_of_getElem? (i := 250) rfl)) rfl
theorem kw_251 : Cond.code ⟨"ClassGroup", "isIndependent", "(I)Z"⟩ prog_1_method_42_code 4 (some .boolean) ∈ wT := wT_mem (List.mem_append_right _ (List.mem_of_getElem? (i := 251) rfl)) rfl
theorem kw_252 : Cond.methodLink "ClassGroup" 252 ⟨"ClassGroup", "reachWith", "(II)I"⟩ ∈ wT := wT_mem (List.mem_append_right _ (List.mem_of_getElem? (i := 252) rfl)) rfl
theorem kw_254 : Cond.instanceMethod ⟨"ClassGroup", "reachWith", "(II)I"⟩ ∈ wT := wT_mem (List.mem_append_right _ (List.mem_of_getElem? (i := 254) rfl)) rfl
theorem kw_255 : Cond.code ⟨"ClassGroup", "reachWith", "(II)I"⟩ prog_1_method_43_code 6 (some .int) ∈ wT := wT_mem (List.mem_append_right _ (List.mem_of_getElem? (i := 255) rfl)) rfl
theorem kw_256 : Cond.methodLink "ClassGroupLaw" 47 ⟨"ClassGroupLaw", "take", "(LClassGroup;I[J)I"⟩ ∈ wT := wT_mem (List.mem_append_right _ (List.mem_of_getElem? (i := 256) rfl)) rfl
theorem kw_257 : Cond.static ⟨"ClassGroupLaw", "take", "(LClassGroup;I[J)I"⟩ ∈ wT := wT_mem (List.mem_append_right _ (List.mem_of_getElem? (i := 257) rfl)) rfl
theorem kw_258 : Cond.codeWith ⟨"ClassGroupLaw", "take", "(LClassGroup;I[J)I"⟩ method_3_code 4 (some .int) [(0, 9, 12, 13)] ∈ wT := wT_mem (List.mem_append_right _ (List.mem_of_getElem? (i := 258) rfl)) rfl
theorem kw_259 : Cond.classLink "ClassGroupLaw" 13 "java/lang/IllegalArgumentException" ∈ wT := wT_mem (List.mem_append_right _ (List.mem_of_getElem? (i := 259) rfl)) rfl
theorem kw_260 : Cond.methodLink "ClassGroupLaw" 7 ⟨"ClassGroup", "take", "(I)I"⟩ ∈ wT := wT_mem (List.mem_append_right _ (List.mem_of_getElem? (i := 260) rfl)) rfl
theorem kw_261 : Cond.instanceMethod ⟨"ClassGroup", "take", "(I)I"⟩ ∈ wT := wT_mem (List.mem_append_right _ (List.mem_of_getElem? (i := 261) rfl)) rfl
theorem kw_262 : Cond.selects "ClassGroup" ⟨"ClassGroup", "take", "(I)I"⟩ ⟨"ClassGroup", "take", "(I)I"⟩ ∈ wT := wT_mem (List.mem_append_right _ (List.mem_of_getElem? (i := 262) rfl)) rfl
theorem kw_263 : Cond.code ⟨"ClassGroup", "take", "(I)I"⟩ prog_1_method_2_code 2 (some .int) ∈ wT := wT_mem (List.mem_append_right _ (List.mem_of_getElem? (i := 263) rfl)) rfl
theorem kw_264 : Cond.methodLink "ClassGroup" 49 ⟨"ClassGroup", "canBeTaken", "(I)Z"⟩ ∈ wT := wT_mem (List.mem_append_right _ (List.mem_of_getElem? (i := 264) rfl)) rfl
theorem kw_265 : Cond.static ⟨"ClassGroup", "canBeTaken", "(I)Z"⟩ ∈ wT := wT_mem (List.mem_append_right _ (List.mem_of_getElem? (i := 265) rfl)) rfl
theorem kw_266 : Cond.code ⟨"ClassGroup", "canBeTaken", "(I)Z"⟩ prog_1_method_18_code 2 (some .boolean) ∈ wT := wT_mem (List.mem_append_right _ (List.mem_of_getElem? (i := 266) rfl)) rfl
theorem kw_267 : Cond.constant "ClassGroup" 165 (-1048576) ∈ wT := wT_mem (List.mem_append_right _ (List.mem_of_getElem? (i := 267) rfl)) rfl
theorem kw_268 : Cond.constant "ClassGroup" 166 1048576 ∈ wT := wT_mem (List.mem_append_right _ (List.mem_of_getElem? (i := 268) rfl)) rfl
theorem kw_269 : Cond.methodLink "ClassGroup" 167 ⟨"java/lang/Math", "floorMod", "(II)I"⟩ ∈ wT := wT_mem (List.mem_append_right _ (List.mem_of_getElem? (i := 269) rfl)) rfl
theorem kw_270 : Cond.static ⟨"java/lang/Math", "floorMod", "(II)I"⟩ ∈ wT := wT_mem (List.mem_append_right _ (List.mem_of_getElem? (i := 270) rfl)) rfl
theorem kw_271 : Cond.code ⟨"java/lang/Math", "floorMod", "(II)I"⟩ prog_9_method_50_code 3 (some .int) ∈ wT := wT_mem (List.mem_append_right _ (List.mem_of_getElem? (i := 271) rfl)) rfl
theorem kw_272 : Cond.classLink "ClassGroup" 53 "java/lang/IllegalArgumentException" ∈ wT := wT_mem (List.mem_append_right _ (List.mem_of_getElem? (i := 272) rfl)) rfl
theorem kw_273 : Cond.instantiable "java/lang/IllegalArgumentException" 6 ∈ wT := wT_mem (List.mem_append_right _ (List.mem_of_getElem? (i := 273) rfl)) rfl
theorem kw_281 : Cond.selects "java/lang/IllegalArgumentException" ⟨"java/lang/Throwable", "fillInStackTrace", "(I)Ljava/lang/Throwable;"⟩ ⟨"java/lang/Throwable", "fillInStackTrace", "(I)Ljava/lang/Throwable;"⟩ ∈ wT := wT_mem (List.mem_append_right _ (List.mem_of_getElem? (i := 281) rfl)) rfl
theorem kw_282 : Cond.selects "java/lang/IllegalArgumentException" ⟨"java/lang/Throwable", "fillInStackTrace", "()Ljava/lang/Throwable;"⟩ ⟨"java/lang/Throwable", "fillInStackTrace", "()Ljava/lang/Throwable;"⟩ ∈ wT := wT_mem (List.mem_append_right _ (List.mem_of_getElem? (i := 282) rfl)) rfl
theorem kw_283 : Cond.lays "java/lang/IllegalArgumentException" "java/lang/Throwable" "cause" "Ljava/lang/Throwable;" ∈ wT := wT_mem (List.mem_append_right _ (List.mem_of_getElem? (i := 283) rfl)) rfl
theorem kw_284 : Cond.lays "java/lang/Throwable" "java/lang/Throwable" "cause" "Ljava/lang/Throwable;" ∈ wT := wT_mem (List.mem_append_right _ (List.mem_of_getElem? (i := 284) rfl)) rfl
theorem kw_285 : Cond.lays "java/lang/IllegalArgumentException" "java/lang/Throwable" "stackTrace" "[Ljava/lang/StackTraceElement;" ∈ wT := wT_mem (List.mem_append_right _ (List.mem_of_getElem? (i := 285) rfl)) rfl
theorem kw_286 : Cond.lays "java/lang/Throwable" "java/lang/Throwable" "stackTrace" "[Ljava/lang/StackTraceElement;" ∈ wT := wT_mem (List.mem_append_right _ (List.mem_of_getElem? (i := 286) rfl)) rfl
theorem kw_287 : Cond.lays "java/lang/IllegalArgumentException" "java/lang/Throwable" "suppressedExceptions" "Ljava/util/List;" ∈ wT := wT_mem (List.mem_append_right _ (List.mem_of_getElem? (i := 287) rfl)) rfl
theorem kw_288 : Cond.lays "java/lang/Throwable" "java/lang/Throwable" "suppressedExceptions" "Ljava/util/List;" ∈ wT := wT_mem (List.mem_append_right _ (List.mem_of_getElem? (i := 288) rfl)) rfl
theorem kw_289 : Cond.lays "java/lang/IllegalArgumentException" "java/lang/Throwable" "detailMessage" "Ljava/lang/String;" ∈ wT := wT_mem (List.mem_append_right _ (List.mem_of_getElem? (i := 289) rfl)) rfl
theorem kw_290 : Cond.lays "java/lang/Throwable" "java/lang/Throwable" "detailMessage" "Ljava/lang/String;" ∈ wT := wT_mem (List.mem_append_right _ (List.mem_of_getElem? (i := 290) rfl)) rfl
theorem kw_291 : Cond.lays "java/lang/IllegalArgumentException" "java/lang/Throwable" "backtrace" "Ljava/lang/Object;" ∈ wT := wT_mem (List.mem_append_right _ (List.mem_of_getElem? (i := 291) rfl)) rfl
theorem kw_292 : Cond.lays "java/lang/Throwable" "java/lang/Throwable" "backtrace" "Ljava/lang/Object;" ∈ wT := wT_mem (List.mem_append_right _ (List.mem_of_getElem? (i := 292) rfl)) rfl
theorem kw_293 : Cond.fieldLink "java/lang/Throwable" 198 "java/lang/Throwable" "backtrace" "Ljava/lang/Object;" ∈ wT := wT_mem (List.mem_append_right _ (List.mem_of_getElem? (i := 293) rfl)) rfl
theorem kw_294 : Cond.superclass "java/lang/Throwable" "java/lang/Object" ∈ wT := wT_mem (List.mem_append_right _ (List.mem_of_getElem? (i := 294) rfl)) rfl
theorem kw_295 : Cond.instanceMethod ⟨"java/lang/Throwable", "<init>", "()V"⟩ ∈ wT := wT_mem (List.mem_append_right _ (List.mem_of_getElem? (i := 295) rfl)) rfl
theorem kw_296 : Cond.code ⟨"java/lang/Throwable", "<init>", "()V"⟩ prog_12_method_1_code 1 none ∈ wT := wT_mem (List.mem_append_right _ (List.mem_of_getElem? (i := 296) rfl)) rfl
theorem kw_297 : Cond.methodLink "java/lang/Throwable" 1 ⟨"java/lang/Object", "<init>", "()V"⟩ ∈ wT := wT_mem (List.mem_append_right _ (List.mem_of_getElem? (i := 297) rfl)) rfl
theorem kw_298 : Cond.fieldLink "java/lang/Throwable" 13 "java/lang/Throwable" "UNASSIGNED_STACK" "[Ljava/lang/StackTraceElement;" ∈ wT := wT_mem (List.mem_append_right _ (List.mem_of_getElem? (i := 298) rfl)) rfl
theorem kw_300 : Cond.fieldLink "java/lang/Throwable" 20 "java/lang/Throwable" "SUPPRESSED_SENTINEL" "Ljava/util/List;" ∈ wT := wT_mem (List.mem_append_right _ (List.mem_of_getElem? (i := 300) rfl)) rfl
set_option maxRecDepth 20000 in
theorem kw_302 : Cond.methodLink "java/lang/Throwable" 27 ⟨"java/lang/Throwable", "fillInStackTrace", "()Ljava/lang/Throwable;"⟩ ∈ wT := wT_mem (List.mem_append_right _ (List.mem_of_getElem? (i := 302) rfl)) rfl
set_option maxRecDepth 20000 in
theorem kw_303 : Cond.instanceMethod ⟨"java/lang/Throwable", "fillInStackTrace", "()Ljava/lang/Throwable;"⟩ ∈ wT := wT_mem (List.mem_append_right _ (List.mem_of_getElem? (i := 303) rfl)) rfl
set_option maxRecDepth 20000 in
theorem kw_304 : Cond.sameMethod "java/lang/Throwable" "java/lang/Throwable" "fillInStackTrace" "()Ljava/lang/Throwable;" ∈ wT := wT_mem (List.mem_append_right _ (List.mem_of_getElem? (i := 304) rfl)) rfl
set_option maxRecDepth 20000 in
theorem kw_305 : Cond.selects "java/lang/IndexOutOfBoundsException" ⟨"java/lang/Throwable", "fillInStackTrace", "()Ljava/lang/Throwable;"⟩ ⟨"java/lang/Throwable", "fillInStackTrace", "()Ljava/lang/Throwable;"⟩ ∈ wT := wT_mem (List.mem_append_right _ (List.mem_of_getElem? (i := 305) rfl)) rfl
set_option maxRecDepth 20000 in
theorem kw_306 : Cond.codeSync ⟨"java/lang/Throwable", "fillInStackTrace", "()Ljava/lang/Throwable;"⟩ prog_12_method_18_code 1 (Option.some (.object "java/lang/Throwable")) ∈ wT := wT_mem (List.mem_append_right _ (List.mem_of_getElem? (i := 306) rfl)) rfl
set_option maxRecDepth 20000 in
theorem kw_307 : Cond.methodLink "java/lang/Throwable" 202 ⟨"java/lang/Throwable", "fillInStackTrace", "(I)Ljava/lang/Throwable;"⟩ ∈ wT := wT_mem (List.mem_append_right _ (List.mem_of_getElem? (i := 307) rfl)) rfl
set_option maxRecDepth 20000 in
theorem kw_309 : Cond.instanceMethod ⟨"java/lang/Throwable", "fillInStackTrace", "(I)Ljava/lang/Throwable;"⟩ ∈ wT := wT_mem (List.mem_append_right _ (List.mem_of_getElem? (i := 309) rfl)) rfl
set_option maxRecDepth 20000 in
theorem kw_310 : Cond.instantiable "java/lang/Throwable" 6 ∈ wT := wT_mem (List.mem_append_right _ (List.mem_of_getElem? (i := 310) rfl)) rfl
set_option maxRecDepth 20000 in
theorem kw_311 : Cond.native ⟨"java/lang/Throwable", "fillInStackTrace", "(I)Ljava/lang/Throwable;"⟩ ∈ wT := wT_mem (List.mem_append_right _ (List.mem_of_getElem? (i := 311) rfl)) rfl
set_option maxRecDepth 20000 in
theorem kw_313 : Cond.methodLink "ClassGroup" 57 ⟨"java/lang/IllegalArgumentException", "<init>", "(Ljava/lang/String;)V"⟩ ∈ wT := wT_mem (List.mem_append_right _ (List.mem_of_getElem? (i := 313) rfl)) rfl
set_option maxRecDepth 20000 in
theorem kw_314 : Cond.instanceMethod ⟨"java/lang/IllegalArgumentException", "<init>", "(Ljava/lang/String;)V"⟩ ∈ wT := wT_mem (List.mem_append_right _ (List.mem_of_getElem? (i := 314) rfl)) rfl
set_option maxRecDepth 20000 in
theorem kw_315 : Cond.code ⟨"java/lang/IllegalArgumentException", "<init>", "(Ljava/lang/String;)V"⟩ prog_7_method_2_code 2 none ∈ wT := wT_mem (List.mem_append_right _ (List.mem_of_getElem? (i := 315) rfl)) rfl
set_option maxRecDepth 20000 in
theorem kw_316 : Cond.methodLink "java/lang/IllegalArgumentException" 7 ⟨"java/lang/RuntimeException", "<init>", "(Ljava/lang/String;)V"⟩ ∈ wT := wT_mem (List.mem_append_right _ (List.mem_of_getElem? (i := 316) rfl)) rfl
set_option maxRecDepth 20000 in
theorem kw_317 : Cond.instanceMethod ⟨"java/lang/RuntimeException", "<init>", "(Ljava/lang/String;)V"⟩ ∈ wT := wT_mem (List.mem_append_right _ (List.mem_of_getElem? (i := 317) rfl)) rfl
set_option maxRecDepth 20000 in
theorem kw_318 : Cond.code ⟨"java/lang/RuntimeException", "<init>", "(Ljava/lang/String;)V"⟩ prog_10_method_2_code 2 none ∈ wT := wT_mem (List.mem_append_right _ (List.mem_of_getElem? (i := 318) rfl)) rfl
set_option maxRecDepth 20000 in
theorem kw_319 : Cond.methodLink "java/lang/RuntimeException" 7 ⟨"java/lang/Exception", "<init>", "(Ljava/lang/String;)V"⟩ ∈ wT := wT_mem (List.mem_append_right _ (List.mem_of_getElem? (i := 319) rfl)) rfl
set_option maxRecDepth 20000 in
theorem kw_320 : Cond.instanceMethod ⟨"java/lang/Exception", "<init>", "(Ljava/lang/String;)V"⟩ ∈ wT := wT_mem (List.mem_append_right _ (List.mem_of_getElem? (i := 320) rfl)) rfl
set_option maxRecDepth 20000 in
theorem kw_321 : Cond.code ⟨"java/lang/Exception", "<init>", "(Ljava/lang/String;)V"⟩ prog_6_method_2_code 2 none ∈ wT := wT_mem (List.mem_append_right _ (List.mem_of_getElem? (i := 321) rfl)) rfl
set_option maxRecDepth 20000 in
theorem kw_322 : Cond.methodLink "java/lang/Exception" 7 ⟨"java/lang/Throwable", "<init>", "(Ljava/lang/String;)V"⟩ ∈ wT := wT_mem (List.mem_append_right _ (List.mem_of_getElem? (i := 322) rfl)) rfl
set_option maxRecDepth 20000 in
theorem kw_323 : Cond.instanceMethod ⟨"java/lang/Throwable", "<init>", "(Ljava/lang/String;)V"⟩ ∈ wT := wT_mem (List.mem_append_right _ (List.mem_of_getElem? (i := 323) rfl)) rfl
set_option maxRecDepth 20000 in
theorem kw_324 : Cond.code ⟨"java/lang/Throwable", "<init>", "(Ljava/lang/String;)V"⟩ prog_12_method_2_code 2 none ∈ wT := wT_mem (List.mem_append_right _ (List.mem_of_getElem? (i := 324) rfl)) rfl
set_option maxRecDepth 20000 in
theorem kw_325 : Cond.fieldLink "java/lang/Throwable" 198 "java/lang/Throwable" "backtrace" "Ljava/lang/Object;" ∈ wT := wT_mem (List.mem_append_right _ (List.mem_of_getElem? (i := 325) rfl)) rfl
set_option maxRecDepth 20000 in
theorem kw_326 : Cond.fieldLink "java/lang/Throwable" 31 "java/lang/Throwable" "detailMessage" "Ljava/lang/String;" ∈ wT := wT_mem (List.mem_append_right _ (List.mem_of_getElem? (i := 326) rfl)) rfl
set_option maxRecDepth 20000 in
theorem kw_327 : Cond.fieldLink "java/lang/Throwable" 7 "java/lang/Throwable" "cause" "Ljava/lang/Throwable;" ∈ wT := wT_mem (List.mem_append_right _ (List.mem_of_getElem? (i := 327) rfl)) rfl
set_option maxRecDepth 20000 in
theorem kw_328 : Cond.fieldLink "java/lang/Throwable" 17 "java/lang/Throwable" "stackTrace" "[Ljava/lang/StackTraceElement;" ∈ wT := wT_mem (List.mem_append_right _ (List.mem_of_getElem? (i := 328) rfl)) rfl
set_option maxRecDepth 20000 in
theorem kw_329 : Cond.fieldLink "java/lang/Throwable" 24 "java/lang/Throwable" "suppressedExceptions" "Ljava/util/List;" ∈ wT := wT_mem (List.mem_append_right _ (List.mem_of_getElem? (i := 329) rfl)) rfl
set_option maxRecDepth 20000 in
theorem kw_330 : Cond.soleField "java/lang/Throwable" "backtrace" ∈ wT := wT_mem (List.mem_append_right _ (List.mem_of_getElem? (i := 330) rfl)) rfl
set_option maxRecDepth 20000 in
theorem kw_331 : Cond.soleField "java/lang/Throwable" "detailMessage" ∈ wT := wT_mem (List.mem_append_right _ (List.mem_of_getElem? (i := 331) rfl)) rfl
set_option maxRecDepth 20000 in
theorem kw_332 : Cond.soleField "java/lang/Throwable" "cause" ∈ wT := wT_mem (List.mem_append_right _ (List.mem_of_getElem? (i := 332) rfl)) rfl
set_option maxRecDepth 20000 in
theorem kw_333 : Cond.soleField "java/lang/Throwable" "stackTrace" ∈ wT := wT_mem (List.mem_append_right _ (List.mem_of_getElem? (i := 333) rfl)) rfl
set_option maxRecDepth 20000 in
theorem kw_334 : Cond.lays "java/lang/IllegalArgumentException" "java/lang/Throwable" "depth" "I" ∈ wT := wT_mem (List.mem_append_right _ (List.mem_of_getElem? (i := 334) rfl)) rfl
set_option maxRecDepth 20000 in
theorem kw_335 : Cond.soleField "java/lang/Throwable" "depth" ∈ wT := wT_mem (List.mem_append_right _ (List.mem_of_getElem? (i := 335) rfl)) rfl
set_option maxRecDepth 20000 in
theorem kw_336 : Cond.soleField "java/lang/Throwable" "suppressedExceptions" ∈ wT := wT_mem (List.mem_append_right _ (List.mem_of_getElem? (i := 336) rfl)) rfl
set_option maxRecDepth 20000 in
theorem kw_337 : Cond.superclass "java/lang/IllegalArgumentException" "java/lang/RuntimeException" ∈ wT := wT_mem (List.mem_append_right _ (List.mem_of_getElem? (i := 337) rfl)) rfl
set_option maxRecDepth 20000 in
theorem kw_338 : Cond.arrayClass .byte ∈ wT := wT_mem (List.mem_append_right _ (List.mem_of_getElem? (i := 338) rfl)) rfl
set_option maxRecDepth 20000 in
theorem kw_339 : Cond.methodLink "ClassGroupLaw" 61 ⟨"ClassGroupLaw", "name", "(LClassGroup;II[J)I"⟩ ∈ wT := wT_mem (List.mem_append_right _ (List.mem_of_getElem? (i := 339) rfl)) rfl
set_option maxRecDepth 20000 in
theorem kw_340 : Cond.static ⟨"ClassGroupLaw", "name", "(LClassGroup;II[J)I"⟩ ∈ wT := wT_mem (List.mem_append_right _ (List.mem_of_getElem? (i := 340) rfl)) rfl
set_option maxRecDepth 20000 in
theorem kw_341 : Cond.codeWith ⟨"ClassGroupLaw", "name", "(LClassGroup;II[J)I"⟩ method_4_code 5 (some .int) [(0, 10, 13, 19)] ∈ wT := wT_mem (List.mem_append_right _ (List.mem_of_getElem? (i := 341) rfl)) rfl
set_option maxRecDepth 20000 in
theorem kw_342 : Cond.classLink "ClassGroupLaw" 19 "java/lang/IndexOutOfBoundsException" ∈ wT := wT_mem (List.mem_append_right _ (List.mem_of_getElem? (i := 342) rfl)) rfl
set_option maxRecDepth 20000 in
theorem kw_343 : Cond.methodLink "ClassGroupLaw" 15 ⟨"ClassGroup", "name", "(II)I"⟩ ∈ wT := wT_mem (List.mem_append_right _ (List.mem_of_getElem? (i := 343) rfl)) rfl
set_option maxRecDepth 20000 in
theorem kw_344 : Cond.instanceMethod ⟨"ClassGroup", "name", "(II)I"⟩ ∈ wT := wT_mem (List.mem_append_right _ (List.mem_of_getElem? (i := 344) rfl)) rfl
set_option maxRecDepth 20000 in
theorem kw_345 : Cond.selects "ClassGroup" ⟨"ClassGroup", "name", "(II)I"⟩ ⟨"ClassGroup", "name", "(II)I"⟩ ∈ wT := wT_mem (List.mem_append_right _ (List.mem_of_getElem? (i := 345) rfl)) rfl
set_option maxRecDepth 20000 in
theorem kw_346 : Cond.code ⟨"ClassGroup", "name", "(II)I"⟩ prog_1_method_4_code 3 (some .int) ∈ wT := wT_mem (List.mem_append_right _ (List.mem_of_getElem? (i := 346) rfl)) rfl
set_option maxRecDepth 20000 in
theorem kw_347 : Cond.classLink "ClassGroup" 85 "java/lang/IndexOutOfBoundsException" ∈ wT := wT_mem (List.mem_append_right _ (List.mem_of_getElem? (i := 347) rfl)) rfl
set_option maxRecDepth 20000 in
theorem kw_348 : Cond.instantiable "java/lang/IndexOutOfBoundsException" 6 ∈ wT := wT_mem (List.mem_append_right _ (List.mem_of_getElem? (i := 348) rfl)) rfl
set_option maxRecDepth 20000 in
theorem kw_350 : Cond.selects "java/lang/IndexOutOfBoundsException" ⟨"java/lang/Throwable", "fillInStackTrace", "(I)Ljava/lang/Throwable;"⟩ ⟨"java/lang/Throwable", "fillInStackTrace", "(I)Ljava/lang/Throwable;"⟩ ∈ wT := wT_mem (List.mem_append_right _ (List.mem_of_getElem? (i := 350) rfl)) rfl
set_option maxRecDepth 20000 in
theorem kw_351 : Cond.lays "java/lang/IndexOutOfBoundsException" "java/lang/Throwable" "cause" "Ljava/lang/Throwable;" ∈ wT := wT_mem (List.mem_append_right _ (List.mem_of_getElem? (i := 351) rfl)) rfl
set_option maxRecDepth 20000 in
theorem kw_352 : Cond.lays "java/lang/IndexOutOfBoundsException" "java/lang/Throwable" "stackTrace" "[Ljava/lang/StackTraceElement;" ∈ wT := wT_mem (List.mem_append_right _ (List.mem_of_getElem? (i := 352) rfl)) rfl
set_option maxRecDepth 20000 in
theorem kw_353 : Cond.lays "java/lang/IndexOutOfBoundsException" "java/lang/Throwable" "suppressedExceptions" "Ljava/util/List;" ∈ wT := wT_mem (List.mem_append_right _ (List.mem_of_getElem? (i := 353) rfl)) rfl
set_option maxRecDepth 20000 in
theorem kw_354 : Cond.lays "java/lang/IndexOutOfBoundsException" "java/lang/Throwable" "detailMessage" "Ljava/lang/String;" ∈ wT := wT_mem (List.mem_append_right _ (List.mem_of_getElem? (i := 354) rfl)) rfl
set_option maxRecDepth 20000 in
theorem kw_355 : Cond.lays "java/lang/IndexOutOfBoundsException" "java/lang/Throwable" "backtrace" "Ljava/lang/Object;" ∈ wT := wT_mem (List.mem_append_right _ (List.mem_of_getElem? (i := 355) rfl)) rfl
set_option maxRecDepth 20000 in
theorem kw_357 : Cond.methodLink "ClassGroup" 89 ⟨"java/lang/IndexOutOfBoundsException", "<init>", "(Ljava/lang/String;)V"⟩ ∈ wT := wT_mem (List.mem_append_right _ (List.mem_of_getElem? (i := 357) rfl)) rfl
set_option maxRecDepth 20000 in
theorem kw_358 : Cond.instanceMethod ⟨"java/lang/IndexOutOfBoundsException", "<init>", "(Ljava/lang/String;)V"⟩ ∈ wT := wT_mem (List.mem_append_right _ (List.mem_of_getElem? (i := 358) rfl)) rfl
set_option maxRecDepth 20000 in
theorem kw_359 : Cond.code ⟨"java/lang/IndexOutOfBoundsException", "<init>", "(Ljava/lang/String;)V"⟩ prog_8_method_2_code 2 none ∈ wT := wT_mem (List.mem_append_right _ (List.mem_of_getElem? (i := 359) rfl)) rfl
set_option maxRecDepth 20000 in
theorem kw_360 : Cond.methodLink "java/lang/IndexOutOfBoundsException" 7 ⟨"java/lang/RuntimeException", "<init>", "(Ljava/lang/String;)V"⟩ ∈ wT := wT_mem (List.mem_append_right _ (List.mem_of_getElem? (i := 360) rfl)) rfl
set_option maxRecDepth 20000 in
theorem kw_361 : Cond.lays "java/lang/IndexOutOfBoundsException" "java/lang/Throwable" "depth" "I" ∈ wT := wT_mem (List.mem_append_right _ (List.mem_of_getElem? (i := 361) rfl)) rfl
set_option maxRecDepth 20000 in
theorem kw_362 : Cond.superclass "java/lang/IndexOutOfBoundsException" "java/lang/RuntimeException" ∈ wT := wT_mem (List.mem_append_right _ (List.mem_of_getElem? (i := 362) rfl)) rfl
set_option maxRecDepth 20000 in
theorem kw_363 : Cond.methodLink "ClassGroupLaw" 65 ⟨"ClassGroupLaw", "classOf", "(LClassGroup;III[J)I"⟩ ∈ wT := wT_mem (List.mem_append_right _ (List.mem_of_getElem? (i := 363) rfl)) rfl
set_option maxRecDepth 20000 in
theorem kw_364 : Cond.static ⟨"ClassGroupLaw", "classOf", "(LClassGroup;III[J)I"⟩ ∈ wT := wT_mem (List.mem_append_right _ (List.mem_of_getElem? (i := 364) rfl)) rfl
set_option maxRecDepth 20000 in
theorem kw_365 : Cond.codeWith ⟨"ClassGroupLaw", "classOf", "(LClassGroup;III[J)I"⟩ method_5_code 6 (some .int) [(0, 12, 15, 13)] ∈ wT := wT_mem (List.mem_append_right _ (List.mem_of_getElem? (i := 365) rfl)) rfl
set_option maxRecDepth 20000 in
theorem kw_366 : Cond.methodLink "ClassGroupLaw" 21 ⟨"ClassGroup", "classOf", "(III)I"⟩ ∈ wT := wT_mem (List.mem_append_right _ (List.mem_of_getElem? (i := 366) rfl)) rfl
set_option maxRecDepth 20000 in
theorem kw_367 : Cond.instanceMethod ⟨"ClassGroup", "classOf", "(III)I"⟩ ∈ wT := wT_mem (List.mem_append_right _ (List.mem_of_getElem? (i := 367) rfl)) rfl
set_option maxRecDepth 20000 in
theorem kw_368 : Cond.selects "ClassGroup" ⟨"ClassGroup", "classOf", "(III)I"⟩ ⟨"ClassGroup", "classOf", "(III)I"⟩ ∈ wT := wT_mem (List.mem_append_right _ (List.mem_of_getElem? (i := 368) rfl)) rfl
set_option maxRecDepth 20000 in
theorem kw_369 : Cond.code ⟨"ClassGroup", "classOf", "(III)I"⟩ prog_1_method_5_code 4 (some .int) ∈ wT := wT_mem (List.mem_append_right _ (List.mem_of_getElem? (i := 369) rfl)) rfl
set_option maxRecDepth 20000 in
theorem kw_370 : Cond.methodLink "ClassGroup" 104 ⟨"ClassGroup", "isForm", "(III)Z"⟩ ∈ wT := wT_mem (List.mem_append_right _ (List.mem_of_getElem? (i := 370) rfl)) rfl
set_option maxRecDepth 20000 in
theorem kw_372 : Cond.instanceMethod ⟨"ClassGroup", "isForm", "(III)Z"⟩ ∈ wT := wT_mem (List.mem_append_right _ (List.mem_of_getElem? (i := 372) rfl)) rfl
set_option maxRecDepth 20000 in
theorem kw_373 : Cond.code ⟨"ClassGroup", "isForm", "(III)Z"⟩ prog_1_method_14_code 4 (some .boolean) ∈ wT := wT_mem (List.mem_append_right _ (List.mem_of_getElem? (i := 373) rfl)) rfl
set_option maxRecDepth 20000 in
theorem kw_374 : Cond.methodLink "ClassGroup" 149 ⟨"ClassGroup", "isCoefficient", "(I)Z"⟩ ∈ wT := wT_mem (List.mem_append_right _ (List.mem_of_getElem? (i := 374) rfl)) rfl
set_option maxRecDepth 20000 in
theorem kw_375 : Cond.static ⟨"ClassGroup", "isCoefficient", "(I)Z"⟩ ∈ wT := wT_mem (List.mem_append_right _ (List.mem_of_getElem? (i := 375) rfl)) rfl
set_option maxRecDepth 20000 in
theorem kw_376 : Cond.code ⟨"ClassGroup", "isCoefficient", "(I)Z"⟩ prog_1_method_15_code 1 (some .boolean) ∈ wT := wT_mem (List.mem_append_right _ (List.mem_of_getElem? (i := 376) rfl)) rfl
set_option maxRecDepth 20000 in
theorem kw_377 : Cond.constant "ClassGroup" 157 (-1073741824) ∈ wT := wT_mem (List.mem_append_right _ (List.mem_of_getElem? (i := 377) rfl)) rfl
set_option maxRecDepth 20000 in
theorem kw_378 : Cond.constant "ClassGroup" 158 1073741824 ∈ wT := wT_mem (List.mem_append_right _ (List.mem_of_getElem? (i := 378) rfl)) rfl
set_option maxRecDepth 20000 in
theorem kw_380 : Cond.methodLink "ClassGroupLaw" 69 ⟨"ClassGroupLaw", "product", "(LClassGroup;II[J)I"⟩ ∈ wT := wT_mem (List.mem_append_right _ (List.mem_of_getElem? (i := 380) rfl)) rfl
set_option maxRecDepth 20000 in
theorem kw_381 : Cond.static ⟨"ClassGroupLaw", "product", "(LClassGroup;II[J)I"⟩ ∈ wT := wT_mem (List.mem_append_right _ (List.mem_of_getElem? (i := 381) rfl)) rfl
set_option maxRecDepth 20000 in
theorem kw_382 : Cond.codeWith ⟨"ClassGroupLaw", "product", "(LClassGroup;II[J)I"⟩ method_6_code 5 (some .int) [(0, 10, 13, 19)] ∈ wT := wT_mem (List.mem_append_right _ (List.mem_of_getElem? (i := 382) rfl)) rfl
set_option maxRecDepth 20000 in
theorem kw_383 : Cond.methodLink "ClassGroupLaw" 25 ⟨"ClassGroup", "product", "(II)I"⟩ ∈ wT := wT_mem (List.mem_append_right _ (List.mem_of_getElem? (i := 383) rfl)) rfl
set_option maxRecDepth 20000 in
theorem kw_384 : Cond.instanceMethod ⟨"ClassGroup", "product", "(II)I"⟩ ∈ wT := wT_mem (List.mem_append_right _ (List.mem_of_getElem? (i := 384) rfl)) rfl
set_option maxRecDepth 20000 in
theorem kw_385 : Cond.selects "ClassGroup" ⟨"ClassGroup", "product", "(II)I"⟩ ⟨"ClassGroup", "product", "(II)I"⟩ ∈ wT := wT_mem (List.mem_append_right _ (List.mem_of_getElem? (i := 385) rfl)) rfl
set_option maxRecDepth 20000 in
theorem kw_386 : Cond.code ⟨"ClassGroup", "product", "(II)I"⟩ prog_1_method_6_code 3 (some .int) ∈ wT := wT_mem (List.mem_append_right _ (List.mem_of_getElem? (i := 386) rfl)) rfl
set_option maxRecDepth 20000 in
theorem kw_388 : Cond.methodLink "ClassGroupLaw" 72 ⟨"ClassGroupLaw", "inverse", "(LClassGroup;I[J)I"⟩ ∈ wT := wT_mem (List.mem_append_right _ (List.mem_of_getElem? (i := 388) rfl)) rfl
set_option maxRecDepth 20000 in
theorem kw_389 : Cond.static ⟨"ClassGroupLaw", "inverse", "(LClassGroup;I[J)I"⟩ ∈ wT := wT_mem (List.mem_append_right _ (List.mem_of_getElem? (i := 389) rfl)) rfl
set_option maxRecDepth 20000 in
theorem kw_390 : Cond.codeWith ⟨"ClassGroupLaw", "inverse", "(LClassGroup;I[J)I"⟩ method_7_code 4 (some .int) [(0, 9, 12, 19)] ∈ wT := wT_mem (List.mem_append_right _ (List.mem_of_getElem? (i := 390) rfl)) rfl
set_option maxRecDepth 20000 in
theorem kw_391 : Cond.methodLink "ClassGroupLaw" 28 ⟨"ClassGroup", "inverse", "(I)I"⟩ ∈ wT := wT_mem (List.mem_append_right _ (List.mem_of_getElem? (i := 391) rfl)) rfl
set_option maxRecDepth 20000 in
theorem kw_392 : Cond.instanceMethod ⟨"ClassGroup", "inverse", "(I)I"⟩ ∈ wT := wT_mem (List.mem_append_right _ (List.mem_of_getElem? (i := 392) rfl)) rfl
set_option maxRecDepth 20000 in
theorem kw_393 : Cond.selects "ClassGroup" ⟨"ClassGroup", "inverse", "(I)I"⟩ ⟨"ClassGroup", "inverse", "(I)I"⟩ ∈ wT := wT_mem (List.mem_append_right _ (List.mem_of_getElem? (i := 393) rfl)) rfl
set_option maxRecDepth 20000 in
theorem kw_394 : Cond.code ⟨"ClassGroup", "inverse", "(I)I"⟩ prog_1_method_7_code 2 (some .int) ∈ wT := wT_mem (List.mem_append_right _ (List.mem_of_getElem? (i := 394) rfl)) rfl
set_option maxRecDepth 20000 in
theorem kw_395 : Cond.methodLink "ClassGroupLaw" 75 ⟨"ClassGroupLaw", "power", "(LClassGroup;II[J)I"⟩ ∈ wT := wT_mem (List.mem_append_right _ (List.mem_of_getElem? (i := 395) rfl)) rfl
set_option maxRecDepth 20000 in
theorem kw_396 : Cond.static ⟨"ClassGroupLaw", "power", "(LClassGroup;II[J)I"⟩ ∈ wT := wT_mem (List.mem_append_right _ (List.mem_of_getElem? (i := 396) rfl)) rfl
set_option maxRecDepth 20000 in
theorem kw_397 : Cond.codeWith ⟨"ClassGroupLaw", "power", "(LClassGroup;II[J)I"⟩ method_8_code 5 (some .int) [(0, 10, 13, 19)] ∈ wT := wT_mem (List.mem_append_right _ (List.mem_of_getElem? (i := 397) rfl)) rfl
set_option maxRecDepth 20000 in
theorem kw_398 : Cond.methodLink "ClassGroupLaw" 31 ⟨"ClassGroup", "power", "(II)I"⟩ ∈ wT := wT_mem (List.mem_append_right _ (List.mem_of_getElem? (i := 398) rfl)) rfl
set_option maxRecDepth 20000 in
theorem kw_399 : Cond.instanceMethod ⟨"ClassGroup", "power", "(II)I"⟩ ∈ wT := wT_mem (List.mem_append_right _ (List.mem_of_getElem? (i := 399) rfl)) rfl
set_option maxRecDepth 20000 in
theorem kw_400 : Cond.selects "ClassGroup" ⟨"ClassGroup", "power", "(II)I"⟩ ⟨"ClassGroup", "power", "(II)I"⟩ ∈ wT := wT_mem (List.mem_append_right _ (List.mem_of_getElem? (i := 400) rfl)) rfl
set_option maxRecDepth 20000 in
theorem kw_401 : Cond.code ⟨"ClassGroup", "power", "(II)I"⟩ prog_1_method_8_code 5 (some .int) ∈ wT := wT_mem (List.mem_append_right _ (List.mem_of_getElem? (i := 401) rfl)) rfl
set_option maxRecDepth 20000 in
theorem kw_402 : Cond.methodLink "ClassGroupLaw" 78 ⟨"ClassGroupLaw", "order", "(LClassGroup;I[J)I"⟩ ∈ wT := wT_mem (List.mem_append_right _ (List.mem_of_getElem? (i := 402) rfl)) rfl
set_option maxRecDepth 20000 in
theorem kw_403 : Cond.static ⟨"ClassGroupLaw", "order", "(LClassGroup;I[J)I"⟩ ∈ wT := wT_mem (List.mem_append_right _ (List.mem_of_getElem? (i := 403) rfl)) rfl
set_option maxRecDepth 20000 in
theorem kw_404 : Cond.codeWith ⟨"ClassGroupLaw", "order", "(LClassGroup;I[J)I"⟩ method_9_code 4 (some .int) [(0, 9, 12, 19)] ∈ wT := wT_mem (List.mem_append_right _ (List.mem_of_getElem? (i := 404) rfl)) rfl
set_option maxRecDepth 20000 in
theorem kw_405 : Cond.methodLink "ClassGroupLaw" 34 ⟨"ClassGroup", "order", "(I)I"⟩ ∈ wT := wT_mem (List.mem_append_right _ (List.mem_of_getElem? (i := 405) rfl)) rfl
set_option maxRecDepth 20000 in
theorem kw_406 : Cond.instanceMethod ⟨"ClassGroup", "order", "(I)I"⟩ ∈ wT := wT_mem (List.mem_append_right _ (List.mem_of_getElem? (i := 406) rfl)) rfl
set_option maxRecDepth 20000 in
theorem kw_407 : Cond.selects "ClassGroup" ⟨"ClassGroup", "order", "(I)I"⟩ ⟨"ClassGroup", "order", "(I)I"⟩ ∈ wT := wT_mem (List.mem_append_right _ (List.mem_of_getElem? (i := 407) rfl)) rfl
set_option maxRecDepth 20000 in
theorem kw_408 : Cond.code ⟨"ClassGroup", "order", "(I)I"⟩ prog_1_method_9_code 2 (some .int) ∈ wT := wT_mem (List.mem_append_right _ (List.mem_of_getElem? (i := 408) rfl)) rfl
set_option maxRecDepth 20000 in
theorem kw_409 : Cond.methodLink "ClassGroupLaw" 81 ⟨"ClassGroupLaw", "generator", "(LClassGroup;I[J)I"⟩ ∈ wT := wT_mem (List.mem_append_right _ (List.mem_of_getElem? (i := 409) rfl)) rfl
set_option maxRecDepth 20000 in
theorem kw_410 : Cond.static ⟨"ClassGroupLaw", "generator", "(LClassGroup;I[J)I"⟩ ∈ wT := wT_mem (List.mem_append_right _ (List.mem_of_getElem? (i := 410) rfl)) rfl
set_option maxRecDepth 20000 in
theorem kw_411 : Cond.codeWith ⟨"ClassGroupLaw", "generator", "(LClassGroup;I[J)I"⟩ method_10_code 4 (some .int) [(0, 9, 12, 19)] ∈ wT := wT_mem (List.mem_append_right _ (List.mem_of_getElem? (i := 411) rfl)) rfl
set_option maxRecDepth 20000 in
theorem kw_412 : Cond.methodLink "ClassGroupLaw" 37 ⟨"ClassGroup", "generator", "(I)I"⟩ ∈ wT := wT_mem (List.mem_append_right _ (List.mem_of_getElem? (i := 412) rfl)) rfl
set_option maxRecDepth 20000 in
theorem kw_413 : Cond.instanceMethod ⟨"ClassGroup", "generator", "(I)I"⟩ ∈ wT := wT_mem (List.mem_append_right _ (List.mem_of_getElem? (i := 413) rfl)) rfl
set_option maxRecDepth 20000 in
theorem kw_414 : Cond.selects "ClassGroup" ⟨"ClassGroup", "generator", "(I)I"⟩ ⟨"ClassGroup", "generator", "(I)I"⟩ ∈ wT := wT_mem (List.mem_append_right _ (List.mem_of_getElem? (i := 414) rfl)) rfl
set_option maxRecDepth 20000 in
theorem kw_415 : Cond.code ⟨"ClassGroup", "generator", "(I)I"⟩ prog_1_method_10_code 2 (some .int) ∈ wT := wT_mem (List.mem_append_right _ (List.mem_of_getElem? (i := 415) rfl)) rfl
set_option maxRecDepth 20000 in
theorem kw_416 : Cond.methodLink "ClassGroup" 142 ⟨"ClassGroup", "isGenerator", "(I)Z"⟩ ∈ wT := wT_mem (List.mem_append_right _ (List.mem_of_getElem? (i := 416) rfl)) rfl
set_option maxRecDepth 20000 in
theorem kw_418 : Cond.instanceMethod ⟨"ClassGroup", "isGenerator", "(I)Z"⟩ ∈ wT := wT_mem (List.mem_append_right _ (List.mem_of_getElem? (i := 418) rfl)) rfl
set_option maxRecDepth 20000 in
theorem kw_419 : Cond.code ⟨"ClassGroup", "isGenerator", "(I)Z"⟩ prog_1_method_13_code 2 (some .boolean) ∈ wT := wT_mem (List.mem_append_right _ (List.mem_of_getElem? (i := 419) rfl)) rfl
set_option maxRecDepth 20000 in
theorem kw_421 : Cond.methodLink "ClassGroupLaw" 84 ⟨"ClassGroupLaw", "exponent", "(LClassGroup;II[J)I"⟩ ∈ wT := wT_mem (List.mem_append_right _ (List.mem_of_getElem? (i := 421) rfl)) rfl
set_option maxRecDepth 20000 in
theorem kw_422 : Cond.static ⟨"ClassGroupLaw", "exponent", "(LClassGroup;II[J)I"⟩ ∈ wT := wT_mem (List.mem_append_right _ (List.mem_of_getElem? (i := 422) rfl)) rfl
set_option maxRecDepth 20000 in
theorem kw_423 : Cond.codeWith ⟨"ClassGroupLaw", "exponent", "(LClassGroup;II[J)I"⟩ method_11_code 5 (some .int) [(0, 10, 13, 19)] ∈ wT := wT_mem (List.mem_append_right _ (List.mem_of_getElem? (i := 423) rfl)) rfl
set_option maxRecDepth 20000 in
theorem kw_424 : Cond.methodLink "ClassGroupLaw" 40 ⟨"ClassGroup", "exponent", "(II)I"⟩ ∈ wT := wT_mem (List.mem_append_right _ (List.mem_of_getElem? (i := 424) rfl)) rfl
set_option maxRecDepth 20000 in
theorem kw_425 : Cond.instanceMethod ⟨"ClassGroup", "exponent", "(II)I"⟩ ∈ wT := wT_mem (List.mem_append_right _ (List.mem_of_getElem? (i := 425) rfl)) rfl
set_option maxRecDepth 20000 in
theorem kw_426 : Cond.selects "ClassGroup" ⟨"ClassGroup", "exponent", "(II)I"⟩ ⟨"ClassGroup", "exponent", "(II)I"⟩ ∈ wT := wT_mem (List.mem_append_right _ (List.mem_of_getElem? (i := 426) rfl)) rfl
set_option maxRecDepth 20000 in
theorem kw_427 : Cond.code ⟨"ClassGroup", "exponent", "(II)I"⟩ prog_1_method_11_code 5 (some .int) ∈ wT := wT_mem (List.mem_append_right _ (List.mem_of_getElem? (i := 427) rfl)) rfl
set_option maxRecDepth 20000 in
theorem kw_429 : Cond.classLink "ClassGroupLaw" 44 "ClassGroupModel" ∈ wT := wT_mem (List.mem_append_right _ (List.mem_of_getElem? (i := 429) rfl)) rfl
set_option maxRecDepth 20000 in
theorem kw_430 : Cond.instantiable "ClassGroupModel" 20 ∈ wT := wT_mem (List.mem_append_right _ (List.mem_of_getElem? (i := 430) rfl)) rfl
set_option maxRecDepth 20000 in
theorem kw_431 : Cond.methodLink "ClassGroupLaw" 46 ⟨"ClassGroupModel", "<init>", "()V"⟩ ∈ wT := wT_mem (List.mem_append_right _ (List.mem_of_getElem? (i := 431) rfl)) rfl
set_option maxRecDepth 20000 in
theorem kw_432 : Cond.instanceMethod ⟨"ClassGroupModel", "<init>", "()V"⟩ ∈ wT := wT_mem (List.mem_append_right _ (List.mem_of_getElem? (i := 432) rfl)) rfl
set_option maxRecDepth 20000 in
theorem kw_433 : Cond.code ⟨"ClassGroupModel", "<init>", "()V"⟩ prog_5_method_1_code 1 none ∈ wT := wT_mem (List.mem_append_right _ (List.mem_of_getElem? (i := 433) rfl)) rfl
set_option maxRecDepth 20000 in
theorem kw_434 : Cond.methodLink "ClassGroupModel" 1 ⟨"java/lang/Object", "<init>", "()V"⟩ ∈ wT := wT_mem (List.mem_append_right _ (List.mem_of_getElem? (i := 434) rfl)) rfl
set_option maxRecDepth 20000 in
theorem kw_435 : Cond.constant "ClassGroupModel" 7 40960 ∈ wT := wT_mem (List.mem_append_right _ (List.mem_of_getElem? (i := 435) rfl)) rfl
set_option maxRecDepth 20000 in
theorem kw_436 : Cond.constant "ClassGroupModel" 30 32768 ∈ wT := wT_mem (List.mem_append_right _ (List.mem_of_getElem? (i := 436) rfl)) rfl
set_option maxRecDepth 20000 in
theorem kw_437 : Cond.constantLong "ClassGroupModel" 40 (-4) ∈ wT := wT_mem (List.mem_append_right _ (List.mem_of_getElem? (i := 437) rfl)) rfl
set_option maxRecDepth 20000 in
theorem kw_438 : Cond.methodLink "ClassGroupModel" 42 ⟨"ClassGroupModel", "begin", "(J)V"⟩ ∈ wT := wT_mem (List.mem_append_right _ (List.mem_of_getElem? (i := 438) rfl)) rfl
set_option maxRecDepth 20000 in
theorem kw_440 : Cond.instanceMethod ⟨"ClassGroupModel", "begin", "(J)V"⟩ ∈ wT := wT_mem (List.mem_append_right _ (List.mem_of_getElem? (i := 440) rfl)) rfl
set_option maxRecDepth 20000 in
theorem kw_441 : Cond.code ⟨"ClassGroupModel", "begin", "(J)V"⟩ prog_5_method_22_code 4 none ∈ wT := wT_mem (List.mem_append_right _ (List.mem_of_getElem? (i := 441) rfl)) rfl
set_option maxRecDepth 20000 in
theorem kw_442 : Cond.constantLong "ClassGroupModel" 135 (-1) ∈ wT := wT_mem (List.mem_append_right _ (List.mem_of_getElem? (i := 442) rfl)) rfl
set_option maxRecDepth 20000 in
theorem kw_443 : Cond.methodLink "ClassGroupModel" 83 ⟨"ClassGroupModel", "wholeRoot", "(J)J"⟩ ∈ wT := wT_mem (List.mem_append_right _ (List.mem_of_getElem? (i := 443) rfl)) rfl
set_option maxRecDepth 20000 in
theorem kw_444 : Cond.static ⟨"ClassGroupModel", "wholeRoot", "(J)J"⟩ ∈ wT := wT_mem (List.mem_append_right _ (List.mem_of_getElem? (i := 444) rfl)) rfl
set_option maxRecDepth 20000 in
theorem kw_445 : Cond.code ⟨"ClassGroupModel", "wholeRoot", "(J)J"⟩ prog_5_method_6_code 4 (some .long) ∈ wT := wT_mem (List.mem_append_right _ (List.mem_of_getElem? (i := 445) rfl)) rfl
set_option maxRecDepth 20000 in
theorem kw_446 : Cond.methodLink "ClassGroupModel" 137 ⟨"ClassGroupModel", "list", "()V"⟩ ∈ wT := wT_mem (List.mem_append_right _ (List.mem_of_getElem? (i := 446) rfl)) rfl
set_option maxRecDepth 20000 in
theorem kw_448 : Cond.instanceMethod ⟨"ClassGroupModel", "list", "()V"⟩ ∈ wT := wT_mem (List.mem_append_right _ (List.mem_of_getElem? (i := 448) rfl)) rfl
set_option maxRecDepth 20000 in
theorem kw_449 : Cond.code ⟨"ClassGroupModel", "list", "()V"⟩ prog_5_method_10_code 7 none ∈ wT := wT_mem (List.mem_append_right _ (List.mem_of_getElem? (i := 449) rfl)) rfl
set_option maxRecDepth 20000 in
theorem kw_450 : Cond.constantLong "ClassGroupModel" 81 3 ∈ wT := wT_mem (List.mem_append_right _ (List.mem_of_getElem? (i := 450) rfl)) rfl
set_option maxRecDepth 20000 in
theorem kw_451 : Cond.constantLong "ClassGroupModel" 64 4 ∈ wT := wT_mem (List.mem_append_right _ (List.mem_of_getElem? (i := 451) rfl)) rfl
set_option maxRecDepth 20000 in
theorem kw_452 : Cond.methodLink "ClassGroupModel" 74 ⟨"ClassGroupModel", "be", "(JJ)V"⟩ ∈ wT := wT_mem (List.mem_append_right _ (List.mem_of_getElem? (i := 452) rfl)) rfl
set_option maxRecDepth 20000 in
theorem kw_454 : Cond.instanceMethod ⟨"ClassGroupModel", "be", "(JJ)V"⟩ ∈ wT := wT_mem (List.mem_append_right _ (List.mem_of_getElem? (i := 454) rfl)) rfl
set_option maxRecDepth 20000 in
theorem kw_455 : Cond.code ⟨"ClassGroupModel", "be", "(JJ)V"⟩ prog_5_method_7_code 5 none ∈ wT := wT_mem (List.mem_append_right _ (List.mem_of_getElem? (i := 455) rfl)) rfl
set_option maxRecDepth 20000 in
theorem kw_456 : Cond.methodLink "ClassGroupModel" 86 ⟨"ClassGroupModel", "isReduced", "()Z"⟩ ∈ wT := wT_mem (List.mem_append_right _ (List.mem_of_getElem? (i := 456) rfl)) rfl
set_option maxRecDepth 20000 in
theorem kw_458 : Cond.instanceMethod ⟨"ClassGroupModel", "isReduced", "()Z"⟩ ∈ wT := wT_mem (List.mem_append_right _ (List.mem_of_getElem? (i := 458) rfl)) rfl
set_option maxRecDepth 20000 in
theorem kw_459 : Cond.code ⟨"ClassGroupModel", "isReduced", "()Z"⟩ prog_5_method_8_code 1 (some .boolean) ∈ wT := wT_mem (List.mem_append_right _ (List.mem_of_getElem? (i := 459) rfl)) rfl
set_option maxRecDepth 20000 in
theorem kw_460 : Cond.methodLink "ClassGroupModel" 50 ⟨"ClassGroupModel", "size", "(J)J"⟩ ∈ wT := wT_mem (List.mem_append_right _ (List.mem_of_getElem? (i := 460) rfl)) rfl
set_option maxRecDepth 20000 in
theorem kw_461 : Cond.static ⟨"ClassGroupModel", "size", "(J)J"⟩ ∈ wT := wT_mem (List.mem_append_right _ (List.mem_of_getElem? (i := 461) rfl)) rfl
set_option maxRecDepth 20000 in
theorem kw_462 : Cond.code ⟨"ClassGroupModel", "size", "(J)J"⟩ prog_5_method_4_code 2 (some .long) ∈ wT := wT_mem (List.mem_append_right _ (List.mem_of_getElem? (i := 462) rfl)) rfl
set_option maxRecDepth 20000 in
theorem kw_463 : Cond.constantLong "ClassGroupModel" 72 2 ∈ wT := wT_mem (List.mem_append_right _ (List.mem_of_getElem? (i := 463) rfl)) rfl
set_option maxRecDepth 20000 in
theorem kw_464 : Cond.methodLink "ClassGroupModel" 90 ⟨"ClassGroupModel", "common", "(JJ)J"⟩ ∈ wT := wT_mem (List.mem_append_right _ (List.mem_of_getElem? (i := 464) rfl)) rfl
set_option maxRecDepth 20000 in
theorem kw_465 : Cond.static ⟨"ClassGroupModel", "common", "(JJ)J"⟩ ∈ wT := wT_mem (List.mem_append_right _ (List.mem_of_getElem? (i := 465) rfl)) rfl
set_option maxRecDepth 20000 in
theorem kw_466 : Cond.code ⟨"ClassGroupModel", "common", "(JJ)J"⟩ prog_5_method_5_code 10 (some .long) ∈ wT := wT_mem (List.mem_append_right _ (List.mem_of_getElem? (i := 466) rfl)) rfl
set_option maxRecDepth 20000 in
theorem kw_467 : Cond.methodLink "ClassGroupModel" 139 ⟨"ClassGroupModel", "gather", "()V"⟩ ∈ wT := wT_mem (List.mem_append_right _ (List.mem_of_getElem? (i := 467) rfl)) rfl
set_option maxRecDepth 20000 in
theorem kw_469 : Cond.instanceMethod ⟨"ClassGroupModel", "gather", "()V"⟩ ∈ wT := wT_mem (List.mem_append_right _ (List.mem_of_getElem? (i := 469) rfl)) rfl
set_option maxRecDepth 20000 in
theorem kw_470 : Cond.code ⟨"ClassGroupModel", "gather", "()V"⟩ prog_5_method_12_code 3 none ∈ wT := wT_mem (List.mem_append_right _ (List.mem_of_getElem? (i := 470) rfl)) rfl
set_option maxRecDepth 20000 in
theorem kw_471 : Cond.methodLink "ClassGroupModel" 97 ⟨"ClassGroupModel", "step", "()V"⟩ ∈ wT := wT_mem (List.mem_append_right _ (List.mem_of_getElem? (i := 471) rfl)) rfl
set_option maxRecDepth 20000 in
theorem kw_473 : Cond.instanceMethod ⟨"ClassGroupModel", "step", "()V"⟩ ∈ wT := wT_mem (List.mem_append_right _ (List.mem_of_getElem? (i := 473) rfl)) rfl
set_option maxRecDepth 20000 in
theorem kw_474 : Cond.code ⟨"ClassGroupModel", "step", "()V"⟩ prog_5_method_9_code 7 none ∈ wT := wT_mem (List.mem_append_right _ (List.mem_of_getElem? (i := 474) rfl)) rfl
set_option maxRecDepth 20000 in
theorem kw_475 : Cond.methodLink "ClassGroupModel" 100 ⟨"ClassGroupModel", "place", "()I"⟩ ∈ wT := wT_mem (List.mem_append_right _ (List.mem_of_getElem? (i := 475) rfl)) rfl
set_option maxRecDepth 20000 in
theorem kw_477 : Cond.instanceMethod ⟨"ClassGroupModel", "place", "()I"⟩ ∈ wT := wT_mem (List.mem_append_right _ (List.mem_of_getElem? (i := 477) rfl)) rfl
set_option maxRecDepth 20000 in
theorem kw_478 : Cond.code ⟨"ClassGroupModel", "place", "()I"⟩ prog_5_method_11_code 5 (some .int) ∈ wT := wT_mem (List.mem_append_right _ (List.mem_of_getElem? (i := 478) rfl)) rfl
set_option maxRecDepth 20000 in
theorem kw_479 : Cond.methodLink "ClassGroupModel" 108 ⟨"ClassGroupModel", "found", "()I"⟩ ∈ wT := wT_mem (List.mem_append_right _ (List.mem_of_getElem? (i := 479) rfl)) rfl
set_option maxRecDepth 20000 in
theorem kw_481 : Cond.instanceMethod ⟨"ClassGroupModel", "found", "()I"⟩ ∈ wT := wT_mem (List.mem_append_right _ (List.mem_of_getElem? (i := 481) rfl)) rfl
set_option maxRecDepth 20000 in
theorem kw_482 : Cond.code ⟨"ClassGroupModel", "found", "()I"⟩ prog_5_method_13_code 1 (some .int) ∈ wT := wT_mem (List.mem_append_right _ (List.mem_of_getElem? (i := 482) rfl)) rfl
set_option maxRecDepth 20000 in
theorem kw_483 : Cond.methodLink "ClassGroupModel" 142 ⟨"ClassGroupModel", "measure", "(I)V"⟩ ∈ wT := wT_mem (List.mem_append_right _ (List.mem_of_getElem? (i := 483) rfl)) rfl
set_option maxRecDepth 20000 in
theorem kw_485 : Cond.instanceMethod ⟨"ClassGroupModel", "measure", "(I)V"⟩ ∈ wT := wT_mem (List.mem_append_right _ (List.mem_of_getElem? (i := 485) rfl)) rfl
set_option maxRecDepth 20000 in
theorem kw_486 : Cond.code ⟨"ClassGroupModel", "measure", "(I)V"⟩ prog_5_method_18_code 5 none ∈ wT := wT_mem (List.mem_append_right _ (List.mem_of_getElem? (i := 486) rfl)) rfl
set_option maxRecDepth 20000 in
theorem kw_487 : Cond.methodLink "ClassGroupModel" 118 ⟨"ClassGroupModel", "times", "(II)I"⟩ ∈ wT := wT_mem (List.mem_append_right _ (List.mem_of_getElem? (i := 487) rfl)) rfl
set_option maxRecDepth 20000 in
theorem kw_489 : Cond.instanceMethod ⟨"ClassGroupModel", "times", "(II)I"⟩ ∈ wT := wT_mem (List.mem_append_right _ (List.mem_of_getElem? (i := 489) rfl)) rfl
set_option maxRecDepth 20000 in
theorem kw_490 : Cond.code ⟨"ClassGroupModel", "times", "(II)I"⟩ prog_5_method_15_code 21 (some .int) ∈ wT := wT_mem (List.mem_append_right _ (List.mem_of_getElem? (i := 490) rfl)) rfl
set_option maxRecDepth 20000 in
theorem kw_491 : Cond.methodLink "ClassGroupModel" 104 ⟨"ClassGroupModel", "beName", "(I)V"⟩ ∈ wT := wT_mem (List.mem_append_right _ (List.mem_of_getElem? (i := 491) rfl)) rfl
set_option maxRecDepth 20000 in
theorem kw_493 : Cond.instanceMethod ⟨"ClassGroupModel", "beName", "(I)V"⟩ ∈ wT := wT_mem (List.mem_append_right _ (List.mem_of_getElem? (i := 493) rfl)) rfl
set_option maxRecDepth 20000 in
theorem kw_494 : Cond.code ⟨"ClassGroupModel", "beName", "(I)V"⟩ prog_5_method_14_code 2 none ∈ wT := wT_mem (List.mem_append_right _ (List.mem_of_getElem? (i := 494) rfl)) rfl
set_option maxRecDepth 20000 in
theorem kw_495 : Cond.methodLink "ClassGroupModel" 145 ⟨"ClassGroupModel", "generate", "()V"⟩ ∈ wT := wT_mem (List.mem_append_right _ (List.mem_of_getElem? (i := 495) rfl)) rfl
set_option maxRecDepth 20000 in
theorem kw_497 : Cond.instanceMethod ⟨"ClassGroupModel", "generate", "()V"⟩ ∈ wT := wT_mem (List.mem_append_right _ (List.mem_of_getElem? (i := 497) rfl)) rfl
set_option maxRecDepth 20000 in
theorem kw_498 : Cond.code ⟨"ClassGroupModel", "generate", "()V"⟩ prog_5_method_20_code 3 none ∈ wT := wT_mem (List.mem_append_right _ (List.mem_of_getElem? (i := 498) rfl)) rfl
set_option maxRecDepth 20000 in
theorem kw_499 : Cond.methodLink "ClassGroupModel" 128 ⟨"ClassGroupModel", "isApart", "(I)Z"⟩ ∈ wT := wT_mem (List.mem_append_right _ (List.mem_of_getElem? (i := 499) rfl)) rfl
set_option maxRecDepth 20000 in
theorem kw_501 : Cond.instanceMethod ⟨"ClassGroupModel", "isApart", "(I)Z"⟩ ∈ wT := wT_mem (List.mem_append_right _ (List.mem_of_getElem? (i := 501) rfl)) rfl
set_option maxRecDepth 20000 in
theorem kw_502 : Cond.code ⟨"ClassGroupModel", "isApart", "(I)Z"⟩ prog_5_method_19_code 3 (some .boolean) ∈ wT := wT_mem (List.mem_append_right _ (List.mem_of_getElem? (i := 502) rfl)) rfl
set_option maxRecDepth 20000 in
theorem kw_503 : Cond.methodLink "ClassGroupModel" 132 ⟨"ClassGroupModel", "join", "(I)V"⟩ ∈ wT := wT_mem (List.mem_append_right _ (List.mem_of_getElem? (i := 503) rfl)) rfl
set_option maxRecDepth 20000 in
theorem kw_505 : Cond.instanceMethod ⟨"ClassGroupModel", "join", "(I)V"⟩ ∈ wT := wT_mem (List.mem_append_right _ (List.mem_of_getElem? (i := 505) rfl)) rfl
set_option maxRecDepth 20000 in
theorem kw_506 : Cond.code ⟨"ClassGroupModel", "join", "(I)V"⟩ prog_5_method_21_code 8 none ∈ wT := wT_mem (List.mem_append_right _ (List.mem_of_getElem? (i := 506) rfl)) rfl
set_option maxRecDepth 20000 in
theorem kw_507 : Cond.fieldLink "ClassGroupModel" 46 "ClassGroupModel" "code" "I" ∈ wT := wT_mem (List.mem_append_right _ (List.mem_of_getElem? (i := 507) rfl)) rfl
set_option maxRecDepth 20000 in
theorem kw_508 : Cond.fieldLink "ClassGroupModel" 61 "ClassGroupModel" "d" "J" ∈ wT := wT_mem (List.mem_append_right _ (List.mem_of_getElem? (i := 508) rfl)) rfl
set_option maxRecDepth 20000 in
theorem kw_509 : Cond.fieldLink "ClassGroupModel" 69 "ClassGroupModel" "w" "J" ∈ wT := wT_mem (List.mem_append_right _ (List.mem_of_getElem? (i := 509) rfl)) rfl
set_option maxRecDepth 20000 in
theorem kw_510 : Cond.fieldLink "ClassGroupModel" 78 "ClassGroupModel" "forms" "I" ∈ wT := wT_mem (List.mem_append_right _ (List.mem_of_getElem? (i := 510) rfl)) rfl
set_option maxRecDepth 20000 in
theorem kw_511 : Cond.fieldLink "ClassGroupModel" 8 "ClassGroupModel" "first" "[I" ∈ wT := wT_mem (List.mem_append_right _ (List.mem_of_getElem? (i := 511) rfl)) rfl
set_option maxRecDepth 20000 in
theorem kw_512 : Cond.fieldLink "ClassGroupModel" 14 "ClassGroupModel" "middle" "[I" ∈ wT := wT_mem (List.mem_append_right _ (List.mem_of_getElem? (i := 512) rfl)) rfl
set_option maxRecDepth 20000 in
theorem kw_513 : Cond.fieldLink "ClassGroupModel" 17 "ClassGroupModel" "classes" "[I" ∈ wT := wT_mem (List.mem_append_right _ (List.mem_of_getElem? (i := 513) rfl)) rfl
set_option maxRecDepth 20000 in
theorem kw_514 : Cond.fieldLink "ClassGroupModel" 94 "ClassGroupModel" "many" "I" ∈ wT := wT_mem (List.mem_append_right _ (List.mem_of_getElem? (i := 514) rfl)) rfl
set_option maxRecDepth 20000 in
theorem kw_515 : Cond.fieldLink "ClassGroupModel" 20 "ClassGroupModel" "names" "[I" ∈ wT := wT_mem (List.mem_append_right _ (List.mem_of_getElem? (i := 515) rfl)) rfl
set_option maxRecDepth 20000 in
theorem kw_516 : Cond.fieldLink "ClassGroupModel" 23 "ClassGroupModel" "orders" "[I" ∈ wT := wT_mem (List.mem_append_right _ (List.mem_of_getElem? (i := 516) rfl)) rfl
set_option maxRecDepth 20000 in
theorem kw_517 : Cond.fieldLink "ClassGroupModel" 26 "ClassGroupModel" "inside" "[Z" ∈ wT := wT_mem (List.mem_append_right _ (List.mem_of_getElem? (i := 517) rfl)) rfl
set_option maxRecDepth 20000 in
theorem kw_518 : Cond.fieldLink "ClassGroupModel" 31 "ClassGroupModel" "exponents" "[I" ∈ wT := wT_mem (List.mem_append_right _ (List.mem_of_getElem? (i := 518) rfl)) rfl
set_option maxRecDepth 20000 in
theorem kw_519 : Cond.fieldLink "ClassGroupModel" 115 "ClassGroupModel" "principal" "I" ∈ wT := wT_mem (List.mem_append_right _ (List.mem_of_getElem? (i := 519) rfl)) rfl
set_option maxRecDepth 20000 in
theorem kw_520 : Cond.fieldLink "ClassGroupModel" 125 "ClassGroupModel" "generators" "I" ∈ wT := wT_mem (List.mem_append_right _ (List.mem_of_getElem? (i := 520) rfl)) rfl
set_option maxRecDepth 20000 in
theorem kw_521 : Cond.fieldLink "ClassGroupModel" 34 "ClassGroupModel" "generator" "[I" ∈ wT := wT_mem (List.mem_append_right _ (List.mem_of_getElem? (i := 521) rfl)) rfl
set_option maxRecDepth 20000 in
theorem kw_522 : Cond.fieldLink "ClassGroupModel" 122 "ClassGroupModel" "listed" "I" ∈ wT := wT_mem (List.mem_append_right _ (List.mem_of_getElem? (i := 522) rfl)) rfl
set_option maxRecDepth 20000 in
theorem kw_523 : Cond.fieldLink "ClassGroupModel" 37 "ClassGroupModel" "list" "[I" ∈ wT := wT_mem (List.mem_append_right _ (List.mem_of_getElem? (i := 523) rfl)) rfl
set_option maxRecDepth 20000 in
theorem kw_524 : Cond.fieldLink "ClassGroupModel" 54 "ClassGroupModel" "a" "J" ∈ wT := wT_mem (List.mem_append_right _ (List.mem_of_getElem? (i := 524) rfl)) rfl
set_option maxRecDepth 20000 in
theorem kw_525 : Cond.fieldLink "ClassGroupModel" 58 "ClassGroupModel" "b" "J" ∈ wT := wT_mem (List.mem_append_right _ (List.mem_of_getElem? (i := 525) rfl)) rfl
set_option maxRecDepth 20000 in
theorem kw_526 : Cond.fieldLink "ClassGroupModel" 66 "ClassGroupModel" "c" "J" ∈ wT := wT_mem (List.mem_append_right _ (List.mem_of_getElem? (i := 526) rfl)) rfl
set_option maxRecDepth 20000 in
theorem kw_527 : Cond.lays "ClassGroupModel" "ClassGroupModel" "code" "I" ∈ wT := wT_mem (List.mem_append_right _ (List.mem_of_getElem? (i := 527) rfl)) rfl
set_option maxRecDepth 20000 in
theorem kw_528 : Cond.soleField "ClassGroupModel" "code" ∈ wT := wT_mem (List.mem_append_right _ (List.mem_of_getElem? (i := 528) rfl)) rfl
set_option maxRecDepth 20000 in
theorem kw_529 : Cond.lays "ClassGroupModel" "ClassGroupModel" "d" "J" ∈ wT := wT_mem (List.mem_append_right _ (List.mem_of_getElem? (i := 529) rfl)) rfl
set_option maxRecDepth 20000 in
theorem kw_530 : Cond.soleField "ClassGroupModel" "d" ∈ wT := wT_mem (List.mem_append_right _ (List.mem_of_getElem? (i := 530) rfl)) rfl
set_option maxRecDepth 20000 in
theorem kw_531 : Cond.lays "ClassGroupModel" "ClassGroupModel" "w" "J" ∈ wT := wT_mem (List.mem_append_right _ (List.mem_of_getElem? (i := 531) rfl)) rfl
set_option maxRecDepth 20000 in
theorem kw_532 : Cond.soleField "ClassGroupModel" "w" ∈ wT := wT_mem (List.mem_append_right _ (List.mem_of_getElem? (i := 532) rfl)) rfl
set_option maxRecDepth 20000 in
theorem kw_533 : Cond.lays "ClassGroupModel" "ClassGroupModel" "forms" "I" ∈ wT := wT_mem (List.mem_append_right _ (List.mem_of_getElem? (i := 533) rfl)) rfl
set_option maxRecDepth 20000 in
theorem kw_534 : Cond.soleField "ClassGroupModel" "forms" ∈ wT := wT_mem (List.mem_append_right _ (List.mem_of_getElem? (i := 534) rfl)) rfl
set_option maxRecDepth 20000 in
theorem kw_535 : Cond.laysFinal "ClassGroupModel" "ClassGroupModel" "first" "[I" ∈ wT := wT_mem (List.mem_append_right _ (List.mem_of_getElem? (i := 535) rfl)) rfl
set_option maxRecDepth 20000 in
theorem kw_536 : Cond.soleField "ClassGroupModel" "first" ∈ wT := wT_mem (List.mem_append_right _ (List.mem_of_getElem? (i := 536) rfl)) rfl
set_option maxRecDepth 20000 in
theorem kw_537 : Cond.laysFinal "ClassGroupModel" "ClassGroupModel" "middle" "[I" ∈ wT := wT_mem (List.mem_append_right _ (List.mem_of_getElem? (i := 537) rfl)) rfl
set_option maxRecDepth 20000 in
theorem kw_538 : Cond.soleField "ClassGroupModel" "middle" ∈ wT := wT_mem (List.mem_append_right _ (List.mem_of_getElem? (i := 538) rfl)) rfl
set_option maxRecDepth 20000 in
theorem kw_539 : Cond.laysFinal "ClassGroupModel" "ClassGroupModel" "classes" "[I" ∈ wT := wT_mem (List.mem_append_right _ (List.mem_of_getElem? (i := 539) rfl)) rfl
set_option maxRecDepth 20000 in
theorem kw_540 : Cond.soleField "ClassGroupModel" "classes" ∈ wT := wT_mem (List.mem_append_right _ (List.mem_of_getElem? (i := 540) rfl)) rfl
set_option maxRecDepth 20000 in
theorem kw_541 : Cond.lays "ClassGroupModel" "ClassGroupModel" "many" "I" ∈ wT := wT_mem (List.mem_append_right _ (List.mem_of_getElem? (i := 541) rfl)) rfl
set_option maxRecDepth 20000 in
theorem kw_542 : Cond.soleField "ClassGroupModel" "many" ∈ wT := wT_mem (List.mem_append_right _ (List.mem_of_getElem? (i := 542) rfl)) rfl
set_option maxRecDepth 20000 in
theorem kw_543 : Cond.laysFinal "ClassGroupModel" "ClassGroupModel" "names" "[I" ∈ wT := wT_mem (List.mem_append_right _ (List.mem_of_getElem? (i := 543) rfl)) rfl
set_option maxRecDepth 20000 in
theorem kw_544 : Cond.soleField "ClassGroupModel" "names" ∈ wT := wT_mem (List.mem_append_right _ (List.mem_of_getElem? (i := 544) rfl)) rfl
set_option maxRecDepth 20000 in
theorem kw_545 : Cond.laysFinal "ClassGroupModel" "ClassGroupModel" "orders" "[I" ∈ wT := wT_mem (List.mem_append_right _ (List.mem_of_getElem? (i := 545) rfl)) rfl
set_option maxRecDepth 20000 in
theorem kw_546 : Cond.soleField "ClassGroupModel" "orders" ∈ wT := wT_mem (List.mem_append_right _ (List.mem_of_getElem? (i := 546) rfl)) rfl
set_option maxRecDepth 20000 in
theorem kw_547 : Cond.laysFinal "ClassGroupModel" "ClassGroupModel" "inside" "[Z" ∈ wT := wT_mem (List.mem_append_right _ (List.mem_of_getElem? (i := 547) rfl)) rfl
set_option maxRecDepth 20000 in
theorem kw_548 : Cond.soleField "ClassGroupModel" "inside" ∈ wT := wT_mem (List.mem_append_right _ (List.mem_of_getElem? (i := 548) rfl)) rfl
set_option maxRecDepth 20000 in
theorem kw_549 : Cond.laysFinal "ClassGroupModel" "ClassGroupModel" "exponents" "[I" ∈ wT := wT_mem (List.mem_append_right _ (List.mem_of_getElem? (i := 549) rfl)) rfl
set_option maxRecDepth 20000 in
theorem kw_550 : Cond.soleField "ClassGroupModel" "exponents" ∈ wT := wT_mem (List.mem_append_right _ (List.mem_of_getElem? (i := 550) rfl)) rfl
set_option maxRecDepth 20000 in
theorem kw_551 : Cond.lays "ClassGroupModel" "ClassGroupModel" "principal" "I" ∈ wT := wT_mem (List.mem_append_right _ (List.mem_of_getElem? (i := 551) rfl)) rfl
set_option maxRecDepth 20000 in
theorem kw_552 : Cond.soleField "ClassGroupModel" "principal" ∈ wT := wT_mem (List.mem_append_right _ (List.mem_of_getElem? (i := 552) rfl)) rfl
set_option maxRecDepth 20000 in
theorem kw_553 : Cond.lays "ClassGroupModel" "ClassGroupModel" "generators" "I" ∈ wT := wT_mem (List.mem_append_right _ (List.mem_of_getElem? (i := 553) rfl)) rfl
set_option maxRecDepth 20000 in
theorem kw_554 : Cond.soleField "ClassGroupModel" "generators" ∈ wT := wT_mem (List.mem_append_right _ (List.mem_of_getElem? (i := 554) rfl)) rfl
set_option maxRecDepth 20000 in
theorem kw_555 : Cond.laysFinal "ClassGroupModel" "ClassGroupModel" "generator" "[I" ∈ wT := wT_mem (List.mem_append_right _ (List.mem_of_getElem? (i := 555) rfl)) rfl
set_option maxRecDepth 20000 in
theorem kw_556 : Cond.soleField "ClassGroupModel" "generator" ∈ wT := wT_mem (List.mem_append_right _ (List.mem_of_getElem? (i := 556) rfl)) rfl
set_option maxRecDepth 20000 in
theorem kw_557 : Cond.lays "ClassGroupModel" "ClassGroupModel" "listed" "I" ∈ wT := wT_mem (List.mem_append_right _ (List.mem_of_getElem? (i := 557) rfl)) rfl
set_option maxRecDepth 20000 in
theorem kw_558 : Cond.soleField "ClassGroupModel" "listed" ∈ wT := wT_mem (List.mem_append_right _ (List.mem_of_getElem? (i := 558) rfl)) rfl
set_option maxRecDepth 20000 in
theorem kw_559 : Cond.laysFinal "ClassGroupModel" "ClassGroupModel" "list" "[I" ∈ wT := wT_mem (List.mem_append_right _ (List.mem_of_getElem? (i := 559) rfl)) rfl
set_option maxRecDepth 20000 in
theorem kw_560 : Cond.soleField "ClassGroupModel" "list" ∈ wT := wT_mem (List.mem_append_right _ (List.mem_of_getElem? (i := 560) rfl)) rfl
set_option maxRecDepth 20000 in
theorem kw_561 : Cond.lays "ClassGroupModel" "ClassGroupModel" "a" "J" ∈ wT := wT_mem (List.mem_append_right _ (List.mem_of_getElem? (i := 561) rfl)) rfl
set_option maxRecDepth 20000 in
theorem kw_562 : Cond.soleField "ClassGroupModel" "a" ∈ wT := wT_mem (List.mem_append_right _ (List.mem_of_getElem? (i := 562) rfl)) rfl
set_option maxRecDepth 20000 in
theorem kw_563 : Cond.lays "ClassGroupModel" "ClassGroupModel" "b" "J" ∈ wT := wT_mem (List.mem_append_right _ (List.mem_of_getElem? (i := 563) rfl)) rfl
set_option maxRecDepth 20000 in
theorem kw_564 : Cond.soleField "ClassGroupModel" "b" ∈ wT := wT_mem (List.mem_append_right _ (List.mem_of_getElem? (i := 564) rfl)) rfl
set_option maxRecDepth 20000 in
theorem kw_565 : Cond.lays "ClassGroupModel" "ClassGroupModel" "c" "J" ∈ wT := wT_mem (List.mem_append_right _ (List.mem_of_getElem? (i := 565) rfl)) rfl
set_option maxRecDepth 20000 in
theorem kw_566 : Cond.soleField "ClassGroupModel" "c" ∈ wT := wT_mem (List.mem_append_right _ (List.mem_of_getElem? (i := 566) rfl)) rfl
set_option maxRecDepth 20000 in
theorem kw_567 : Cond.superclass "ClassGroupModel" "java/lang/Object" ∈ wT := wT_mem (List.mem_append_right _ (List.mem_of_getElem? (i := 567) rfl)) rfl
set_option maxRecDepth 20000 in
theorem kw_568 : Cond.arrayClass .boolean ∈ wT := wT_mem (List.mem_append_right _ (List.mem_of_getElem? (i := 568) rfl)) rfl
set_option maxRecDepth 20000 in
theorem kw_569 : Cond.methodLink "ClassGroupLaw" 53 ⟨"ClassGroupModel", "thrown", "()I"⟩ ∈ wT := wT_mem (List.mem_append_right _ (List.mem_of_getElem? (i := 569) rfl)) rfl
set_option maxRecDepth 20000 in
theorem kw_570 : Cond.instanceMethod ⟨"ClassGroupModel", "thrown", "()I"⟩ ∈ wT := wT_mem (List.mem_append_right _ (List.mem_of_getElem? (i := 570) rfl)) rfl
set_option maxRecDepth 20000 in
theorem kw_571 : Cond.selects "ClassGroupModel" ⟨"ClassGroupModel", "thrown", "()I"⟩ ⟨"ClassGroupModel", "thrown", "()I"⟩ ∈ wT := wT_mem (List.mem_append_right _ (List.mem_of_getElem? (i := 571) rfl)) rfl
set_option maxRecDepth 20000 in
theorem kw_572 : Cond.code ⟨"ClassGroupModel", "thrown", "()I"⟩ prog_5_method_2_code 1 (some .int) ∈ wT := wT_mem (List.mem_append_right _ (List.mem_of_getElem? (i := 572) rfl)) rfl
set_option maxRecDepth 20000 in
theorem kw_573 : Cond.methodLink "ClassGroupLaw" 52 ⟨"ClassGroupModel", "take", "(I)I"⟩ ∈ wT := wT_mem (List.mem_append_right _ (List.mem_of_getElem? (i := 573) rfl)) rfl
set_option maxRecDepth 20000 in
theorem kw_574 : Cond.instanceMethod ⟨"ClassGroupModel", "take", "(I)I"⟩ ∈ wT := wT_mem (List.mem_append_right _ (List.mem_of_getElem? (i := 574) rfl)) rfl
set_option maxRecDepth 20000 in
theorem kw_575 : Cond.selects "ClassGroupModel" ⟨"ClassGroupModel", "take", "(I)I"⟩ ⟨"ClassGroupModel", "take", "(I)I"⟩ ∈ wT := wT_mem (List.mem_append_right _ (List.mem_of_getElem? (i := 575) rfl)) rfl
set_option maxRecDepth 20000 in
theorem kw_576 : Cond.code ⟨"ClassGroupModel", "take", "(I)I"⟩ prog_5_method_23_code 4 (some .int) ∈ wT := wT_mem (List.mem_append_right _ (List.mem_of_getElem? (i := 576) rfl)) rfl
set_option maxRecDepth 20000 in
theorem kw_577 : Cond.constantLong "ClassGroupModel" 148 (-1048576) ∈ wT := wT_mem (List.mem_append_right _ (List.mem_of_getElem? (i := 577) rfl)) rfl
set_option maxRecDepth 20000 in
theorem kw_578 : Cond.constantLong "ClassGroupModel" 150 1048576 ∈ wT := wT_mem (List.mem_append_right _ (List.mem_of_getElem? (i := 578) rfl)) rfl
set_option maxRecDepth 20000 in
theorem kw_579 : Cond.methodLink "ClassGroupModel" 152 ⟨"ClassGroupModel", "in", "(JJJ)Z"⟩ ∈ wT := wT_mem (List.mem_append_right _ (List.mem_of_getElem? (i := 579) rfl)) rfl
set_option maxRecDepth 20000 in
theorem kw_580 : Cond.static ⟨"ClassGroupModel", "in", "(JJJ)Z"⟩ ∈ wT := wT_mem (List.mem_append_right _ (List.mem_of_getElem? (i := 580) rfl)) rfl
set_option maxRecDepth 20000 in
theorem kw_581 : Cond.code ⟨"ClassGroupModel", "in", "(JJJ)Z"⟩ prog_5_method_3_code 6 (some .boolean) ∈ wT := wT_mem (List.mem_append_right _ (List.mem_of_getElem? (i := 581) rfl)) rfl
set_option maxRecDepth 20000 in
theorem kw_582 : Cond.methodLink "ClassGroupLaw" 60 ⟨"ClassGroupModel", "count", "(I)I"⟩ ∈ wT := wT_mem (List.mem_append_right _ (List.mem_of_getElem? (i := 582) rfl)) rfl
set_option maxRecDepth 20000 in
theorem kw_583 : Cond.instanceMethod ⟨"ClassGroupModel", "count", "(I)I"⟩ ∈ wT := wT_mem (List.mem_append_right _ (List.mem_of_getElem? (i := 583) rfl)) rfl
set_option maxRecDepth 20000 in
theorem kw_584 : Cond.selects "ClassGroupModel" ⟨"ClassGroupModel", "count", "(I)I"⟩ ⟨"ClassGroupModel", "count", "(I)I"⟩ ∈ wT := wT_mem (List.mem_append_right _ (List.mem_of_getElem? (i := 584) rfl)) rfl
set_option maxRecDepth 20000 in
theorem kw_585 : Cond.code ⟨"ClassGroupModel", "count", "(I)I"⟩ prog_5_method_24_code 2 (some .int) ∈ wT := wT_mem (List.mem_append_right _ (List.mem_of_getElem? (i := 585) rfl)) rfl
set_option maxRecDepth 20000 in
theorem kw_586 : Cond.methodLink "ClassGroupLaw" 64 ⟨"ClassGroupModel", "name", "(II)I"⟩ ∈ wT := wT_mem (List.mem_append_right _ (List.mem_of_getElem? (i := 586) rfl)) rfl
set_option maxRecDepth 20000 in
theorem kw_587 : Cond.instanceMethod ⟨"ClassGroupModel", "name", "(II)I"⟩ ∈ wT := wT_mem (List.mem_append_right _ (List.mem_of_getElem? (i := 587) rfl)) rfl
set_option maxRecDepth 20000 in
theorem kw_588 : Cond.selects "ClassGroupModel" ⟨"ClassGroupModel", "name", "(II)I"⟩ ⟨"ClassGroupModel", "name", "(II)I"⟩ ∈ wT := wT_mem (List.mem_append_right _ (List.mem_of_getElem? (i := 588) rfl)) rfl
set_option maxRecDepth 20000 in
theorem kw_589 : Cond.code ⟨"ClassGroupModel", "name", "(II)I"⟩ prog_5_method_26_code 3 (some .int) ∈ wT := wT_mem (List.mem_append_right _ (List.mem_of_getElem? (i := 589) rfl)) rfl
set_option maxRecDepth 20000 in
theorem kw_590 : Cond.methodLink "ClassGroupModel" 156 ⟨"ClassGroupModel", "isClass", "(I)Z"⟩ ∈ wT := wT_mem (List.mem_append_right _ (List.mem_of_getElem? (i := 590) rfl)) rfl
set_option maxRecDepth 20000 in
theorem kw_592 : Cond.instanceMethod ⟨"ClassGroupModel", "isClass", "(I)Z"⟩ ∈ wT := wT_mem (List.mem_append_right _ (List.mem_of_getElem? (i := 592) rfl)) rfl
set_option maxRecDepth 20000 in
theorem kw_593 : Cond.code ⟨"ClassGroupModel", "isClass", "(I)Z"⟩ prog_5_method_25_code 2 (some .boolean) ∈ wT := wT_mem (List.mem_append_right _ (List.mem_of_getElem? (i := 593) rfl)) rfl
set_option maxRecDepth 20000 in
theorem kw_594 : Cond.methodLink "ClassGroupLaw" 68 ⟨"ClassGroupModel", "classOf", "(III)I"⟩ ∈ wT := wT_mem (List.mem_append_right _ (List.mem_of_getElem? (i := 594) rfl)) rfl
set_option maxRecDepth 20000 in
theorem kw_595 : Cond.instanceMethod ⟨"ClassGroupModel", "classOf", "(III)I"⟩ ∈ wT := wT_mem (List.mem_append_right _ (List.mem_of_getElem? (i := 595) rfl)) rfl
set_option maxRecDepth 20000 in
theorem kw_596 : Cond.selects "ClassGroupModel" ⟨"ClassGroupModel", "classOf", "(III)I"⟩ ⟨"ClassGroupModel", "classOf", "(III)I"⟩ ∈ wT := wT_mem (List.mem_append_right _ (List.mem_of_getElem? (i := 596) rfl)) rfl
set_option maxRecDepth 20000 in
theorem kw_597 : Cond.code ⟨"ClassGroupModel", "classOf", "(III)I"⟩ prog_5_method_27_code 5 (some .int) ∈ wT := wT_mem (List.mem_append_right _ (List.mem_of_getElem? (i := 597) rfl)) rfl
set_option maxRecDepth 20000 in
theorem kw_598 : Cond.constantLong "ClassGroupModel" 159 (-1073741824) ∈ wT := wT_mem (List.mem_append_right _ (List.mem_of_getElem? (i := 598) rfl)) rfl
set_option maxRecDepth 20000 in
theorem kw_599 : Cond.constantLong "ClassGroupModel" 161 1073741824 ∈ wT := wT_mem (List.mem_append_right _ (List.mem_of_getElem? (i := 599) rfl)) rfl
set_option maxRecDepth 20000 in
theorem kw_600 : Cond.methodLink "ClassGroupLaw" 71 ⟨"ClassGroupModel", "product", "(II)I"⟩ ∈ wT := wT_mem (List.mem_append_right _ (List.mem_of_getElem? (i := 600) rfl)) rfl
set_option maxRecDepth 20000 in
theorem kw_601 : Cond.instanceMethod ⟨"ClassGroupModel", "product", "(II)I"⟩ ∈ wT := wT_mem (List.mem_append_right _ (List.mem_of_getElem? (i := 601) rfl)) rfl
set_option maxRecDepth 20000 in
theorem kw_602 : Cond.selects "ClassGroupModel" ⟨"ClassGroupModel", "product", "(II)I"⟩ ⟨"ClassGroupModel", "product", "(II)I"⟩ ∈ wT := wT_mem (List.mem_append_right _ (List.mem_of_getElem? (i := 602) rfl)) rfl
set_option maxRecDepth 20000 in
theorem kw_603 : Cond.code ⟨"ClassGroupModel", "product", "(II)I"⟩ prog_5_method_28_code 3 (some .int) ∈ wT := wT_mem (List.mem_append_right _ (List.mem_of_getElem? (i := 603) rfl)) rfl
set_option maxRecDepth 20000 in
theorem kw_604 : Cond.methodLink "ClassGroupLaw" 74 ⟨"ClassGroupModel", "inverse", "(I)I"⟩ ∈ wT := wT_mem (List.mem_append_right _ (List.mem_of_getElem? (i := 604) rfl)) rfl
set_option maxRecDepth 20000 in
theorem kw_605 : Cond.instanceMethod ⟨"ClassGroupModel", "inverse", "(I)I"⟩ ∈ wT := wT_mem (List.mem_append_right _ (List.mem_of_getElem? (i := 605) rfl)) rfl
set_option maxRecDepth 20000 in
theorem kw_606 : Cond.selects "ClassGroupModel" ⟨"ClassGroupModel", "inverse", "(I)I"⟩ ⟨"ClassGroupModel", "inverse", "(I)I"⟩ ∈ wT := wT_mem (List.mem_append_right _ (List.mem_of_getElem? (i := 606) rfl)) rfl
set_option maxRecDepth 20000 in
theorem kw_607 : Cond.code ⟨"ClassGroupModel", "inverse", "(I)I"⟩ prog_5_method_29_code 2 (some .int) ∈ wT := wT_mem (List.mem_append_right _ (List.mem_of_getElem? (i := 607) rfl)) rfl
set_option maxRecDepth 20000 in
theorem kw_608 : Cond.methodLink "ClassGroupModel" 111 ⟨"ClassGroupModel", "turned", "(I)I"⟩ ∈ wT := wT_mem (List.mem_append_right _ (List.mem_of_getElem? (i := 608) rfl)) rfl
set_option maxRecDepth 20000 in
theorem kw_610 : Cond.instanceMethod ⟨"ClassGroupModel", "turned", "(I)I"⟩ ∈ wT := wT_mem (List.mem_append_right _ (List.mem_of_getElem? (i := 610) rfl)) rfl
set_option maxRecDepth 20000 in
theorem kw_611 : Cond.code ⟨"ClassGroupModel", "turned", "(I)I"⟩ prog_5_method_16_code 2 (some .int) ∈ wT := wT_mem (List.mem_append_right _ (List.mem_of_getElem? (i := 611) rfl)) rfl
set_option maxRecDepth 20000 in
theorem kw_612 : Cond.methodLink "ClassGroupLaw" 77 ⟨"ClassGroupModel", "power", "(II)I"⟩ ∈ wT := wT_mem (List.mem_append_right _ (List.mem_of_getElem? (i := 612) rfl)) rfl
set_option maxRecDepth 20000 in
theorem kw_613 : Cond.instanceMethod ⟨"ClassGroupModel", "power", "(II)I"⟩ ∈ wT := wT_mem (List.mem_append_right _ (List.mem_of_getElem? (i := 613) rfl)) rfl
set_option maxRecDepth 20000 in
theorem kw_614 : Cond.selects "ClassGroupModel" ⟨"ClassGroupModel", "power", "(II)I"⟩ ⟨"ClassGroupModel", "power", "(II)I"⟩ ∈ wT := wT_mem (List.mem_append_right _ (List.mem_of_getElem? (i := 614) rfl)) rfl
set_option maxRecDepth 20000 in
theorem kw_615 : Cond.code ⟨"ClassGroupModel", "power", "(II)I"⟩ prog_5_method_30_code 3 (some .int) ∈ wT := wT_mem (List.mem_append_right _ (List.mem_of_getElem? (i := 615) rfl)) rfl
set_option maxRecDepth 20000 in
theorem kw_616 : Cond.methodLink "ClassGroupModel" 163 ⟨"ClassGroupModel", "raised", "(II)I"⟩ ∈ wT := wT_mem (List.mem_append_right _ (List.mem_of_getElem? (i := 616) rfl)) rfl
set_option maxRecDepth 20000 in
theorem kw_618 : Cond.instanceMethod ⟨"ClassGroupModel", "raised", "(II)I"⟩ ∈ wT := wT_mem (List.mem_append_right _ (List.mem_of_getElem? (i := 618) rfl)) rfl
set_option maxRecDepth 20000 in
theorem kw_619 : Cond.code ⟨"ClassGroupModel", "raised", "(II)I"⟩ prog_5_method_17_code 9 (some .int) ∈ wT := wT_mem (List.mem_append_right _ (List.mem_of_getElem? (i := 619) rfl)) rfl
set_option maxRecDepth 20000 in
theorem kw_620 : Cond.methodLink "ClassGroupLaw" 80 ⟨"ClassGroupModel", "order", "(I)I"⟩ ∈ wT := wT_mem (List.mem_append_right _ (List.mem_of_getElem? (i := 620) rfl)) rfl
set_option maxRecDepth 20000 in
theorem kw_621 : Cond.instanceMethod ⟨"ClassGroupModel", "order", "(I)I"⟩ ∈ wT := wT_mem (List.mem_append_right _ (List.mem_of_getElem? (i := 621) rfl)) rfl
set_option maxRecDepth 20000 in
theorem kw_622 : Cond.selects "ClassGroupModel" ⟨"ClassGroupModel", "order", "(I)I"⟩ ⟨"ClassGroupModel", "order", "(I)I"⟩ ∈ wT := wT_mem (List.mem_append_right _ (List.mem_of_getElem? (i := 622) rfl)) rfl
set_option maxRecDepth 20000 in
theorem kw_623 : Cond.code ⟨"ClassGroupModel", "order", "(I)I"⟩ prog_5_method_31_code 2 (some .int) ∈ wT := wT_mem (List.mem_append_right _ (List.mem_of_getElem? (i := 623) rfl)) rfl
set_option maxRecDepth 20000 in
theorem kw_624 : Cond.methodLink "ClassGroupLaw" 83 ⟨"ClassGroupModel", "generator", "(I)I"⟩ ∈ wT := wT_mem (List.mem_append_right _ (List.mem_of_getElem? (i := 624) rfl)) rfl
set_option maxRecDepth 20000 in
theorem kw_625 : Cond.instanceMethod ⟨"ClassGroupModel", "generator", "(I)I"⟩ ∈ wT := wT_mem (List.mem_append_right _ (List.mem_of_getElem? (i := 625) rfl)) rfl
set_option maxRecDepth 20000 in
theorem kw_626 : Cond.selects "ClassGroupModel" ⟨"ClassGroupModel", "generator", "(I)I"⟩ ⟨"ClassGroupModel", "generator", "(I)I"⟩ ∈ wT := wT_mem (List.mem_append_right _ (List.mem_of_getElem? (i := 626) rfl)) rfl
set_option maxRecDepth 20000 in
theorem kw_627 : Cond.code ⟨"ClassGroupModel", "generator", "(I)I"⟩ prog_5_method_32_code 2 (some .int) ∈ wT := wT_mem (List.mem_append_right _ (List.mem_of_getElem? (i := 627) rfl)) rfl
set_option maxRecDepth 20000 in
theorem kw_628 : Cond.methodLink "ClassGroupLaw" 86 ⟨"ClassGroupModel", "exponent", "(II)I"⟩ ∈ wT := wT_mem (List.mem_append_right _ (List.mem_of_getElem? (i := 628) rfl)) rfl
set_option maxRecDepth 20000 in
theorem kw_629 : Cond.instanceMethod ⟨"ClassGroupModel", "exponent", "(II)I"⟩ ∈ wT := wT_mem (List.mem_append_right _ (List.mem_of_getElem? (i := 629) rfl)) rfl
set_option maxRecDepth 20000 in
theorem kw_630 : Cond.selects "ClassGroupModel" ⟨"ClassGroupModel", "exponent", "(II)I"⟩ ⟨"ClassGroupModel", "exponent", "(II)I"⟩ ∈ wT := wT_mem (List.mem_append_right _ (List.mem_of_getElem? (i := 630) rfl)) rfl
set_option maxRecDepth 20000 in
theorem kw_631 : Cond.code ⟨"ClassGroupModel", "exponent", "(II)I"⟩ prog_5_method_33_code 3 (some .int) ∈ wT := wT_mem (List.mem_append_right _ (List.mem_of_getElem? (i := 631) rfl)) rfl
set_option maxRecDepth 20000 in
theorem kw_632 : Cond.arrayClass .long ∈ wT := wT_mem (List.mem_append_right _ (List.mem_of_getElem? (i := 632) rfl)) rfl
set_option maxRecDepth 20000 in
theorem kw_633 : Cond.sameMethod "java/lang/Throwable" "java/lang/Throwable" "fillInStackTrace" "(I)Ljava/lang/Throwable;" ∈ wT := wT_mem (List.mem_append_right _ (List.mem_of_getElem? (i := 633) rfl)) rfl
theorem ks_0 : Cond.selects "ClassGroup" ⟨"ClassGroup", "become", "(I)V"⟩ ⟨"ClassGroup", "become", "(I)V"⟩ ∈ wT := wT_mem (List.mem_append_left _ (List.mem_of_getElem? (i := 0) rfl)) rfl
theorem ks_1 : Cond.selects "ClassGroup" ⟨"ClassGroup", "nameDefinite", "()V"⟩ ⟨"ClassGroup", "nameDefinite", "()V"⟩ ∈ wT := wT_mem (List.mem_append_left _ (List.mem_of_getElem? (i := 1) rfl)) rfl
theorem ks_2 : Cond.selects "ClassGroup" ⟨"ClassGroup", "firstLikeD", "(I)I"⟩ ⟨"ClassGroup", "firstLikeD", "(I)I"⟩ ∈ wT := wT_mem (List.mem_append_left _ (List.mem_of_getElem? (i := 2) rfl)) rfl
theorem ks_3 : Cond.selects "ClassGroup" ⟨"ClassGroup", "keepDefinite", "(III)V"⟩ ⟨"ClassGroup", "keepDefinite", "(III)V"⟩ ∈ wT := wT_mem (List.mem_append_left _ (List.mem_of_getElem? (i := 3) rfl)) rfl
theorem ks_4 : Cond.selects "ClassGroup" ⟨"ClassGroup", "addName", "(II)V"⟩ ⟨"ClassGroup", "addName", "(II)V"⟩ ∈ wT := wT_mem (List.mem_append_left _ (List.mem_of_getElem? (i := 4) rfl)) rfl
theorem ks_5 : Cond.selects "ClassGroup" ⟨"ClassGroup", "nameIndefinite", "()V"⟩ ⟨"ClassGroup", "nameIndefinite", "()V"⟩ ∈ wT := wT_mem (List.mem_append_left _ (List.mem_of_getElem? (i := 5) rfl)) rfl
theorem ks_6 : Cond.selects "ClassGroup" ⟨"ClassGroup", "keepIndefinite", "(III)V"⟩ ⟨"ClassGroup", "keepIndefinite", "(III)V"⟩ ∈ wT := wT_mem (List.mem_append_left _ (List.mem_of_getElem? (i := 6) rfl)) rfl
theorem ks_7 : Cond.selects "ClassGroup" ⟨"ClassGroup", "addNameIfLeast", "(III)V"⟩ ⟨"ClassGroup", "addNameIfLeast", "(III)V"⟩ ∈ wT := wT_mem (List.mem_append_left _ (List.mem_of_getElem? (i := 7) rfl)) rfl
theorem ks_8 : Cond.selects "ClassGroup" ⟨"ClassGroup", "isLeastOfCycle", "(LClassGroup$Form;)Z"⟩ ⟨"ClassGroup", "isLeastOfCycle", "(LClassGroup$Form;)Z"⟩ ∈ wT := wT_mem (List.mem_append_left _ (List.mem_of_getElem? (i := 8) rfl)) rfl
theorem ks_9 : Cond.selects "ClassGroup" ⟨"ClassGroup", "step", "(LClassGroup$Form;)V"⟩ ⟨"ClassGroup", "step", "(LClassGroup$Form;)V"⟩ ∈ wT := wT_mem (List.mem_append_left _ (List.mem_of_getElem? (i := 9) rfl)) rfl
theorem ks_10 : Cond.selects "ClassGroup" ⟨"ClassGroup", "reduce", "(LClassGroup$Form;)V"⟩ ⟨"ClassGroup", "reduce", "(LClassGroup$Form;)V"⟩ ∈ wT := wT_mem (List.mem_append_left _ (List.mem_of_getElem? (i := 10) rfl)) rfl
theorem ks_11 : Cond.selects "ClassGroup" ⟨"ClassGroup", "isReduced", "(LClassGroup$Form;)Z"⟩ ⟨"ClassGroup", "isReduced", "(LClassGroup$Form;)Z"⟩ ∈ wT := wT_mem (List.mem_append_left _ (List.mem_of_getElem? (i := 11) rfl)) rfl
theorem ks_12 : Cond.selects "ClassGroup" ⟨"ClassGroup", "leastKey", "(LClassGroup$Form;)I"⟩ ⟨"ClassGroup", "leastKey", "(LClassGroup$Form;)I"⟩ ∈ wT := wT_mem (List.mem_append_left _ (List.mem_of_getElem? (i := 12) rfl)) rfl
theorem ks_13 : Cond.selects "ClassGroup" ⟨"ClassGroup", "classAt", "(I)I"⟩ ⟨"ClassGroup", "classAt", "(I)I"⟩ ∈ wT := wT_mem (List.mem_append_left _ (List.mem_of_getElem? (i := 13) rfl)) rfl
theorem ks_14 : Cond.selects "ClassGroup" ⟨"ClassGroup", "isClass", "(I)Z"⟩ ⟨"ClassGroup", "isClass", "(I)Z"⟩ ∈ wT := wT_mem (List.mem_append_left _ (List.mem_of_getElem? (i := 14) rfl)) rfl
theorem ks_15 : Cond.selects "ClassGroup" ⟨"ClassGroup", "learnGroup", "()V"⟩ ⟨"ClassGroup", "learnGroup", "()V"⟩ ∈ wT := wT_mem (List.mem_append_left _ (List.mem_of_getElem? (i := 15) rfl)) rfl
theorem ks_16 : Cond.selects "ClassGroup" ⟨"ClassGroup", "learnOrders", "()V"⟩ ⟨"ClassGroup", "learnOrders", "()V"⟩ ∈ wT := wT_mem (List.mem_append_left _ (List.mem_of_getElem? (i := 16) rfl)) rfl
theorem ks_17 : Cond.selects "ClassGroup" ⟨"ClassGroup", "learnOrdersOfPowers", "(I)V"⟩ ⟨"ClassGroup", "learnOrdersOfPowers", "(I)V"⟩ ∈ wT := wT_mem (List.mem_append_left _ (List.mem_of_getElem? (i := 17) rfl)) rfl
theorem ks_18 : Cond.selects "ClassGroup" ⟨"ClassGroup", "multiply", "(II)I"⟩ ⟨"ClassGroup", "multiply", "(II)I"⟩ ∈ wT := wT_mem (List.mem_append_left _ (List.mem_of_getElem? (i := 18) rfl)) rfl
theorem ks_19 : Cond.selects "ClassGroup" ⟨"ClassGroup", "setToName", "(LClassGroup$Form;I)V"⟩ ⟨"ClassGroup", "setToName", "(LClassGroup$Form;I)V"⟩ ∈ wT := wT_mem (List.mem_append_left _ (List.mem_of_getElem? (i := 19) rfl)) rfl
theorem ks_20 : Cond.selects "ClassGroup" ⟨"ClassGroup", "compose", "(LClassGroup$Form;LClassGroup$Form;)V"⟩ ⟨"ClassGroup", "compose", "(LClassGroup$Form;LClassGroup$Form;)V"⟩ ∈ wT := wT_mem (List.mem_append_left _ (List.mem_of_getElem? (i := 20) rfl)) rfl
theorem ks_21 : Cond.selects "ClassGroup" ⟨"ClassGroup", "nextGenerator", "(I)I"⟩ ⟨"ClassGroup", "nextGenerator", "(I)I"⟩ ∈ wT := wT_mem (List.mem_append_left _ (List.mem_of_getElem? (i := 21) rfl)) rfl
theorem ks_22 : Cond.selects "ClassGroup" ⟨"ClassGroup", "isIndependent", "(I)Z"⟩ ⟨"ClassGroup", "isIndependent", "(I)Z"⟩ ∈ wT := wT_mem (List.mem_append_left _ (List.mem_of_getElem? (i := 22) rfl)) rfl
theorem ks_23 : Cond.selects "ClassGroup" ⟨"ClassGroup", "reachWith", "(II)I"⟩ ⟨"ClassGroup", "reachWith", "(II)I"⟩ ∈ wT := wT_mem (List.mem_append_left _ (List.mem_of_getElem? (i := 23) rfl)) rfl
theorem ks_24 : Cond.selects "java/lang/Throwable" ⟨"java/lang/Throwable", "fillInStackTrace", "(I)Ljava/lang/Throwable;"⟩ ⟨"java/lang/Throwable", "fillInStackTrace", "(I)Ljava/lang/Throwable;"⟩ ∈ wT := wT_mem (List.mem_append_left _ (List.mem_of_getElem? (i := 24) rfl)) rfl
theorem ks_25 : Cond.selects "ClassGroup" ⟨"ClassGroup", "isForm", "(III)Z"⟩ ⟨"ClassGroup", "isForm", "(III)Z"⟩ ∈ wT := wT_mem (List.mem_append_left _ (List.mem_of_getElem? (i := 25) rfl)) rfl
theorem ks_26 : Cond.selects "ClassGroup" ⟨"ClassGroup", "isGenerator", "(I)Z"⟩ ⟨"ClassGroup", "isGenerator", "(I)Z"⟩ ∈ wT := wT_mem (List.mem_append_left _ (List.mem_of_getElem? (i := 26) rfl)) rfl
theorem ks_27 : Cond.selects "ClassGroupModel" ⟨"ClassGroupModel", "begin", "(J)V"⟩ ⟨"ClassGroupModel", "begin", "(J)V"⟩ ∈ wT := wT_mem (List.mem_append_left _ (List.mem_of_getElem? (i := 27) rfl)) rfl
theorem ks_28 : Cond.selects "ClassGroupModel" ⟨"ClassGroupModel", "list", "()V"⟩ ⟨"ClassGroupModel", "list", "()V"⟩ ∈ wT := wT_mem (List.mem_append_left _ (List.mem_of_getElem? (i := 28) rfl)) rfl
theorem ks_29 : Cond.selects "ClassGroupModel" ⟨"ClassGroupModel", "be", "(JJ)V"⟩ ⟨"ClassGroupModel", "be", "(JJ)V"⟩ ∈ wT := wT_mem (List.mem_append_left _ (List.mem_of_getElem? (i := 29) rfl)) rfl
theorem ks_30 : Cond.selects "ClassGroupModel" ⟨"ClassGroupModel", "isReduced", "()Z"⟩ ⟨"ClassGroupModel", "isReduced", "()Z"⟩ ∈ wT := wT_mem (List.mem_append_left _ (List.mem_of_getElem? (i := 30) rfl)) rfl
theorem ks_31 : Cond.selects "ClassGroupModel" ⟨"ClassGroupModel", "gather", "()V"⟩ ⟨"ClassGroupModel", "gather", "()V"⟩ ∈ wT := wT_mem (List.mem_append_left _ (List.mem_of_getElem? (i := 31) rfl)) rfl
theorem ks_32 : Cond.selects "ClassGroupModel" ⟨"ClassGroupModel", "step", "()V"⟩ ⟨"ClassGroupModel", "step", "()V"⟩ ∈ wT := wT_mem (List.mem_append_left _ (List.mem_of_getElem? (i := 32) rfl)) rfl
theorem ks_33 : Cond.selects "ClassGroupModel" ⟨"ClassGroupModel", "place", "()I"⟩ ⟨"ClassGroupModel", "place", "()I"⟩ ∈ wT := wT_mem (List.mem_append_left _ (List.mem_of_getElem? (i := 33) rfl)) rfl
theorem ks_34 : Cond.selects "ClassGroupModel" ⟨"ClassGroupModel", "found", "()I"⟩ ⟨"ClassGroupModel", "found", "()I"⟩ ∈ wT := wT_mem (List.mem_append_left _ (List.mem_of_getElem? (i := 34) rfl)) rfl
theorem ks_35 : Cond.selects "ClassGroupModel" ⟨"ClassGroupModel", "measure", "(I)V"⟩ ⟨"ClassGroupModel", "measure", "(I)V"⟩ ∈ wT := wT_mem (List.mem_append_left _ (List.mem_of_getElem? (i := 35) rfl)) rfl
theorem ks_36 : Cond.selects "ClassGroupModel" ⟨"ClassGroupModel", "times", "(II)I"⟩ ⟨"ClassGroupModel", "times", "(II)I"⟩ ∈ wT := wT_mem (List.mem_append_left _ (List.mem_of_getElem? (i := 36) rfl)) rfl
theorem ks_37 : Cond.selects "ClassGroupModel" ⟨"ClassGroupModel", "beName", "(I)V"⟩ ⟨"ClassGroupModel", "beName", "(I)V"⟩ ∈ wT := wT_mem (List.mem_append_left _ (List.mem_of_getElem? (i := 37) rfl)) rfl
theorem ks_38 : Cond.selects "ClassGroupModel" ⟨"ClassGroupModel", "generate", "()V"⟩ ⟨"ClassGroupModel", "generate", "()V"⟩ ∈ wT := wT_mem (List.mem_append_left _ (List.mem_of_getElem? (i := 38) rfl)) rfl
theorem ks_39 : Cond.selects "ClassGroupModel" ⟨"ClassGroupModel", "isApart", "(I)Z"⟩ ⟨"ClassGroupModel", "isApart", "(I)Z"⟩ ∈ wT := wT_mem (List.mem_append_left _ (List.mem_of_getElem? (i := 39) rfl)) rfl
theorem ks_40 : Cond.selects "ClassGroupModel" ⟨"ClassGroupModel", "join", "(I)V"⟩ ⟨"ClassGroupModel", "join", "(I)V"⟩ ∈ wT := wT_mem (List.mem_append_left _ (List.mem_of_getElem? (i := 40) rfl)) rfl
theorem ks_41 : Cond.selects "ClassGroupModel" ⟨"ClassGroupModel", "isClass", "(I)Z"⟩ ⟨"ClassGroupModel", "isClass", "(I)Z"⟩ ∈ wT := wT_mem (List.mem_append_left _ (List.mem_of_getElem? (i := 41) rfl)) rfl
theorem ks_42 : Cond.selects "ClassGroupModel" ⟨"ClassGroupModel", "turned", "(I)I"⟩ ⟨"ClassGroupModel", "turned", "(I)I"⟩ ∈ wT := wT_mem (List.mem_append_left _ (List.mem_of_getElem? (i := 42) rfl)) rfl
theorem ks_43 : Cond.selects "ClassGroupModel" ⟨"ClassGroupModel", "raised", "(II)I"⟩ ⟨"ClassGroupModel", "raised", "(II)I"⟩ ∈ wT := wT_mem (List.mem_append_left _ (List.mem_of_getElem? (i := 43) rfl)) rfl
