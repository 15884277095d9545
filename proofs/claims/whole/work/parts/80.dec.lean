abbrev cL_take : ByteArray := method_3_code
abbrev yL_take : MethodName := ⟨"ClassGroupLaw", "take", "(LClassGroup;I[J)I"⟩
abbrev wsL_take : List Cond := .codeWith ⟨"ClassGroupLaw", "take", "(LClassGroup;I[J)I"⟩ method_3_code 4 (some .int) [(0, 9, 12, 13)] :: wT
theorem dL_take_0 : decode cL_take 0 = .ok (.aload_n 2, 1) := by decide +kernel
theorem dL_take_1 : decode cL_take 1 = .ok (.iconst 0, 1) := by decide +kernel
theorem dL_take_2 : decode cL_take 2 = .ok (.aload_n 0, 1) := by decide +kernel
theorem dL_take_3 : decode cL_take 3 = .ok (.iload_n 1, 1) := by decide +kernel
theorem dL_take_4 : decode cL_take 4 = .ok (.invokevirtual 7, 3) := by decide +kernel
theorem dL_take_7 : decode cL_take 7 = .ok (.i2l, 1) := by decide +kernel
theorem dL_take_8 : decode cL_take 8 = .ok (.lastore, 1) := by decide +kernel
theorem dL_take_9 : decode cL_take 9 = .ok (.goto 6, 3) := by decide +kernel
theorem dL_take_12 : decode cL_take 12 = .ok (.astore_n 3, 1) := by decide +kernel
theorem dL_take_13 : decode cL_take 13 = .ok (.iconst 1, 1) := by decide +kernel
theorem dL_take_14 : decode cL_take 14 = .ok (.ireturn, 1) := by decide +kernel
theorem dL_take_15 : decode cL_take 15 = .ok (.iconst 0, 1) := by decide +kernel
theorem dL_take_16 : decode cL_take 16 = .ok (.ireturn, 1) := by decide +kernel
abbrev cL_name : ByteArray := method_4_code
abbrev yL_name : MethodName := ⟨"ClassGroupLaw", "name", "(LClassGroup;II[J)I"⟩
abbrev wsL_name : List Cond := .codeWith ⟨"ClassGroupLaw", "name", "(LClassGroup;II[J)I"⟩ method_4_code 5 (some .int) [(0, 10, 13, 19)] :: wT
theorem dL_name_0 : decode cL_name 0 = .ok (.aload_n 3, 1) := by decide +kernel
theorem dL_name_1 : decode cL_name 1 = .ok (.iconst 0, 1) := by decide +kernel
theorem dL_name_2 : decode cL_name 2 = .ok (.aload_n 0, 1) := by decide +kernel
theorem dL_name_3 : decode cL_name 3 = .ok (.iload_n 1, 1) := by decide +kernel
theorem dL_name_4 : decode cL_name 4 = .ok (.iload_n 2, 1) := by decide +kernel
theorem dL_name_5 : decode cL_name 5 = .ok (.invokevirtual 15, 3) := by decide +kernel
theorem dL_name_8 : decode cL_name 8 = .ok (.i2l, 1) := by decide +kernel
theorem dL_name_9 : decode cL_name 9 = .ok (.lastore, 1) := by decide +kernel
theorem dL_name_10 : decode cL_name 10 = .ok (.goto 7, 3) := by decide +kernel
theorem dL_name_13 : decode cL_name 13 = .ok (.astore 4, 2) := by decide +kernel
theorem dL_name_15 : decode cL_name 15 = .ok (.iconst 1, 1) := by decide +kernel
theorem dL_name_16 : decode cL_name 16 = .ok (.ireturn, 1) := by decide +kernel
theorem dL_name_17 : decode cL_name 17 = .ok (.iconst 0, 1) := by decide +kernel
theorem dL_name_18 : decode cL_name 18 = .ok (.ireturn, 1) := by decide +kernel
abbrev cL_classOf : ByteArray := method_5_code
abbrev yL_classOf : MethodName := ⟨"ClassGroupLaw", "classOf", "(LClassGroup;III[J)I"⟩
abbrev wsL_classOf : List Cond := .codeWith ⟨"ClassGroupLaw", "classOf", "(LClassGroup;III[J)I"⟩ method_5_code 6 (some .int) [(0, 12, 15, 13)] :: wT
theorem dL_classOf_0 : decode cL_classOf 0 = .ok (.aload 4, 2) := by decide +kernel
theorem dL_classOf_2 : decode cL_classOf 2 = .ok (.iconst 0, 1) := by decide +kernel
theorem dL_classOf_3 : decode cL_classOf 3 = .ok (.aload_n 0, 1) := by decide +kernel
theorem dL_classOf_4 : decode cL_classOf 4 = .ok (.iload_n 1, 1) := by decide +kernel
theorem dL_classOf_5 : decode cL_classOf 5 = .ok (.iload_n 2, 1) := by decide +kernel
theorem dL_classOf_6 : decode cL_classOf 6 = .ok (.iload_n 3, 1) := by decide +kernel
theorem dL_classOf_7 : decode cL_classOf 7 = .ok (.invokevirtual 21, 3) := by decide +kernel
theorem dL_classOf_10 : decode cL_classOf 10 = .ok (.i2l, 1) := by decide +kernel
theorem dL_classOf_11 : decode cL_classOf 11 = .ok (.lastore, 1) := by decide +kernel
theorem dL_classOf_12 : decode cL_classOf 12 = .ok (.goto 7, 3) := by decide +kernel
theorem dL_classOf_15 : decode cL_classOf 15 = .ok (.astore 5, 2) := by decide +kernel
theorem dL_classOf_17 : decode cL_classOf 17 = .ok (.iconst 1, 1) := by decide +kernel
theorem dL_classOf_18 : decode cL_classOf 18 = .ok (.ireturn, 1) := by decide +kernel
theorem dL_classOf_19 : decode cL_classOf 19 = .ok (.iconst 0, 1) := by decide +kernel
theorem dL_classOf_20 : decode cL_classOf 20 = .ok (.ireturn, 1) := by decide +kernel
abbrev cL_product : ByteArray := method_6_code
abbrev yL_product : MethodName := ⟨"ClassGroupLaw", "product", "(LClassGroup;II[J)I"⟩
abbrev wsL_product : List Cond := .codeWith ⟨"ClassGroupLaw", "product", "(LClassGroup;II[J)I"⟩ method_6_code 5 (some .int) [(0, 10, 13, 19)] :: wT
theorem dL_product_0 : decode cL_product 0 = .ok (.aload_n 3, 1) := by decide +kernel
theorem dL_product_1 : decode cL_product 1 = .ok (.iconst 0, 1) := by decide +kernel
theorem dL_product_2 : decode cL_product 2 = .ok (.aload_n 0, 1) := by decide +kernel
theorem dL_product_3 : decode cL_product 3 = .ok (.iload_n 1, 1) := by decide +kernel
theorem dL_product_4 : decode cL_product 4 = .ok (.iload_n 2, 1) := by decide +kernel
theorem dL_product_5 : decode cL_product 5 = .ok (.invokevirtual 25, 3) := by decide +kernel
theorem dL_product_8 : decode cL_product 8 = .ok (.i2l, 1) := by decide +kernel
theorem dL_product_9 : decode cL_product 9 = .ok (.lastore, 1) := by decide +kernel
theorem dL_product_10 : decode cL_product 10 = .ok (.goto 7, 3) := by decide +kernel
theorem dL_product_13 : decode cL_product 13 = .ok (.astore 4, 2) := by decide +kernel
theorem dL_product_15 : decode cL_product 15 = .ok (.iconst 1, 1) := by decide +kernel
theorem dL_product_16 : decode cL_product 16 = .ok (.ireturn, 1) := by decide +kernel
theorem dL_product_17 : decode cL_product 17 = .ok (.iconst 0, 1) := by decide +kernel
theorem dL_product_18 : decode cL_product 18 = .ok (.ireturn, 1) := by decide +kernel
abbrev cL_inverse : ByteArray := method_7_code
abbrev yL_inverse : MethodName := ⟨"ClassGroupLaw", "inverse", "(LClassGroup;I[J)I"⟩
abbrev wsL_inverse : List Cond := .codeWith ⟨"ClassGroupLaw", "inverse", "(LClassGroup;I[J)I"⟩ method_7_code 4 (some .int) [(0, 9, 12, 19)] :: wT
theorem dL_inverse_0 : decode cL_inverse 0 = .ok (.aload_n 2, 1) := by decide +kernel
theorem dL_inverse_1 : decode cL_inverse 1 = .ok (.iconst 0, 1) := by decide +kernel
theorem dL_inverse_2 : decode cL_inverse 2 = .ok (.aload_n 0, 1) := by decide +kernel
theorem dL_inverse_3 : decode cL_inverse 3 = .ok (.iload_n 1, 1) := by decide +kernel
theorem dL_inverse_4 : decode cL_inverse 4 = .ok (.invokevirtual 28, 3) := by decide +kernel
theorem dL_inverse_7 : decode cL_inverse 7 = .ok (.i2l, 1) := by decide +kernel
theorem dL_inverse_8 : decode cL_inverse 8 = .ok (.lastore, 1) := by decide +kernel
theorem dL_inverse_9 : decode cL_inverse 9 = .ok (.goto 6, 3) := by decide +kernel
theorem dL_inverse_12 : decode cL_inverse 12 = .ok (.astore_n 3, 1) := by decide +kernel
theorem dL_inverse_13 : decode cL_inverse 13 = .ok (.iconst 1, 1) := by decide +kernel
theorem dL_inverse_14 : decode cL_inverse 14 = .ok (.ireturn, 1) := by decide +kernel
theorem dL_inverse_15 : decode cL_inverse 15 = .ok (.iconst 0, 1) := by decide +kernel
theorem dL_inverse_16 : decode cL_inverse 16 = .ok (.ireturn, 1) := by decide +kernel
abbrev cL_power : ByteArray := method_8_code
abbrev yL_power : MethodName := ⟨"ClassGroupLaw", "power", "(LClassGroup;II[J)I"⟩
abbrev wsL_power : List Cond := .codeWith ⟨"ClassGroupLaw", "power", "(LClassGroup;II[J)I"⟩ method_8_code 5 (some .int) [(0, 10, 13, 19)] :: wT
theorem dL_power_0 : decode cL_power 0 = .ok (.aload_n 3, 1) := by decide +kernel
theorem dL_power_1 : decode cL_power 1 = .ok (.iconst 0, 1) := by decide +kernel
theorem dL_power_2 : decode cL_power 2 = .ok (.aload_n 0, 1) := by decide +kernel
theorem dL_power_3 : decode cL_power 3 = .ok (.iload_n 1, 1) := by decide +kernel
theorem dL_power_4 : decode cL_power 4 = .ok (.iload_n 2, 1) := by decide +kernel
theorem dL_power_5 : decode cL_power 5 = .ok (.invokevirtual 31, 3) := by decide +kernel
theorem dL_power_8 : decode cL_power 8 = .ok (.i2l, 1) := by decide +kernel
theorem dL_power_9 : decode cL_power 9 = .ok (.lastore, 1) := by decide +kernel
theorem dL_power_10 : decode cL_power 10 = .ok (.goto 7, 3) := by decide +kernel
theorem dL_power_13 : decode cL_power 13 = .ok (.astore 4, 2) := by decide +kernel
theorem dL_power_15 : decode cL_power 15 = .ok (.iconst 1, 1) := by decide +kernel
theorem dL_power_16 : decode cL_power 16 = .ok (.ireturn, 1) := by decide +kernel
theorem dL_power_17 : decode cL_power 17 = .ok (.iconst 0, 1) := by decide +kernel
theorem dL_power_18 : decode cL_power 18 = .ok (.ireturn, 1) := by decide +kernel
abbrev cL_order : ByteArray := method_9_code
abbrev yL_order : MethodName := ⟨"ClassGroupLaw", "order", "(LClassGroup;I[J)I"⟩
abbrev wsL_order : List Cond := .codeWith ⟨"ClassGroupLaw", "order", "(LClassGroup;I[J)I"⟩ method_9_code 4 (some .int) [(0, 9, 12, 19)] :: wT
theorem dL_order_0 : decode cL_order 0 = .ok (.aload_n 2, 1) := by decide +kernel
theorem dL_order_1 : decode cL_order 1 = .ok (.iconst 0, 1) := by decide +kernel
theorem dL_order_2 : decode cL_order 2 = .ok (.aload_n 0, 1) := by decide +kernel
theorem dL_order_3 : decode cL_order 3 = .ok (.iload_n 1, 1) := by decide +kernel
theorem dL_order_4 : decode cL_order 4 = .ok (.invokevirtual 34, 3) := by decide +kernel
theorem dL_order_7 : decode cL_order 7 = .ok (.i2l, 1) := by decide +kernel
theorem dL_order_8 : decode cL_order 8 = .ok (.lastore, 1) := by decide +kernel
theorem dL_order_9 : decode cL_order 9 = .ok (.goto 6, 3) := by decide +kernel
theorem dL_order_12 : decode cL_order 12 = .ok (.astore_n 3, 1) := by decide +kernel
theorem dL_order_13 : decode cL_order 13 = .ok (.iconst 1, 1) := by decide +kernel
theorem dL_order_14 : decode cL_order 14 = .ok (.ireturn, 1) := by decide +kernel
theorem dL_order_15 : decode cL_order 15 = .ok (.iconst 0, 1) := by decide +kernel
theorem dL_order_16 : decode cL_order 16 = .ok (.ireturn, 1) := by decide +kernel
abbrev cL_generator : ByteArray := method_10_code
abbrev yL_generator : MethodName := ⟨"ClassGroupLaw", "generator", "(LClassGroup;I[J)I"⟩
abbrev wsL_generator : List Cond := .codeWith ⟨"ClassGroupLaw", "generator", "(LClassGroup;I[J)I"⟩ method_10_code 4 (some .int) [(0, 9, 12, 19)] :: wT
theorem dL_generator_0 : decode cL_generator 0 = .ok (.aload_n 2, 1) := by decide +kernel
theorem dL_generator_1 : decode cL_generator 1 = .ok (.iconst 0, 1) := by decide +kernel
theorem dL_generator_2 : decode cL_generator 2 = .ok (.aload_n 0, 1) := by decide +kernel
theorem dL_generator_3 : decode cL_generator 3 = .ok (.iload_n 1, 1) := by decide +kernel
theorem dL_generator_4 : decode cL_generator 4 = .ok (.invokevirtual 37, 3) := by decide +kernel
theorem dL_generator_7 : decode cL_generator 7 = .ok (.i2l, 1) := by decide +kernel
theorem dL_generator_8 : decode cL_generator 8 = .ok (.lastore, 1) := by decide +kernel
theorem dL_generator_9 : decode cL_generator 9 = .ok (.goto 6, 3) := by decide +kernel
theorem dL_generator_12 : decode cL_generator 12 = .ok (.astore_n 3, 1) := by decide +kernel
theorem dL_generator_13 : decode cL_generator 13 = .ok (.iconst 1, 1) := by decide +kernel
theorem dL_generator_14 : decode cL_generator 14 = .ok (.ireturn, 1) := by decide +kernel
theorem dL_generator_15 : decode cL_generator 15 = .ok (.iconst 0, 1) := by decide +kernel
theorem dL_generator_16 : decode cL_generator 16 = .ok (.ireturn, 1) := by decide +kernel
abbrev cL_exponent : ByteArray := method_11_code
abbrev yL_exponent : MethodName := ⟨"ClassGroupLaw", "exponent", "(LClassGroup;II[J)I"⟩
abbrev wsL_exponent : List Cond := .codeWith ⟨"ClassGroupLaw", "exponent", "(LClassGroup;II[J)I"⟩ method_11_code 5 (some .int) [(0, 10, 13, 19)] :: wT
theorem dL_exponent_0 : decode cL_exponent 0 = .ok (.aload_n 3, 1) := by decide +kernel
theorem dL_exponent_1 : decode cL_exponent 1 = .ok (.iconst 0, 1) := by decide +kernel
theorem dL_exponent_2 : decode cL_exponent 2 = .ok (.aload_n 0, 1) := by decide +kernel
theorem dL_exponent_3 : decode cL_exponent 3 = .ok (.iload_n 1, 1) := by decide +kernel
theorem dL_exponent_4 : decode cL_exponent 4 = .ok (.iload_n 2, 1) := by decide +kernel
theorem dL_exponent_5 : decode cL_exponent 5 = .ok (.invokevirtual 40, 3) := by decide +kernel
theorem dL_exponent_8 : decode cL_exponent 8 = .ok (.i2l, 1) := by decide +kernel
theorem dL_exponent_9 : decode cL_exponent 9 = .ok (.lastore, 1) := by decide +kernel
theorem dL_exponent_10 : decode cL_exponent 10 = .ok (.goto 7, 3) := by decide +kernel
theorem dL_exponent_13 : decode cL_exponent 13 = .ok (.astore 4, 2) := by decide +kernel
theorem dL_exponent_15 : decode cL_exponent 15 = .ok (.iconst 1, 1) := by decide +kernel
theorem dL_exponent_16 : decode cL_exponent 16 = .ok (.ireturn, 1) := by decide +kernel
theorem dL_exponent_17 : decode cL_exponent 17 = .ok (.iconst 0, 1) := by decide +kernel
theorem dL_exponent_18 : decode cL_exponent 18 = .ok (.ireturn, 1) := by decide +kernel
