-- ===== PART A: goes FIRST, ahead of the names: the tables' words, and 'selects' of the private methods out of them =====
/-- a private method of a class that the tables say can be made, by its rows of tables_1 -/
def lw_okq (q : MethodName × Nat) : Prop := (q.1.cls ≠ "java/lang/invoke/MethodHandle" ∧ q.1.cls ≠ "java/lang/invoke/VarHandle") ∧ Cond.instantiable q.1.cls q.2 ∈ tables_1 ∧ Cond.privateMethod q.1 ∈ tables_1 ∧ Cond.instanceMethod q.1 ∈ tables_1
theorem lw_p0 : lw_okq (⟨"ClassGroup", "become", "(I)V"⟩, 17) := ⟨⟨by decide +kernel, by decide +kernel⟩, List.mem_of_getElem? (i := 13) (by decide +kernel), List.mem_of_getElem? (i := 60) (by decide +kernel), List.mem_of_getElem? (i := 61) (by decide +kernel)⟩
theorem lw_p1 : lw_okq (⟨"ClassGroup", "nameDefinite", "()V"⟩, 17) := ⟨⟨by decide +kernel, by decide +kernel⟩, List.mem_of_getElem? (i := 13) (by decide +kernel), List.mem_of_getElem? (i := 67) (by decide +kernel), List.mem_of_getElem? (i := 68) (by decide +kernel)⟩
theorem lw_p2 : lw_okq (⟨"ClassGroup", "firstLikeD", "(I)I"⟩, 17) := ⟨⟨by decide +kernel, by decide +kernel⟩, List.mem_of_getElem? (i := 13) (by decide +kernel), List.mem_of_getElem? (i := 71) (by decide +kernel), List.mem_of_getElem? (i := 72) (by decide +kernel)⟩
theorem lw_p3 : lw_okq (⟨"ClassGroup", "keepDefinite", "(III)V"⟩, 17) := ⟨⟨by decide +kernel, by decide +kernel⟩, List.mem_of_getElem? (i := 13) (by decide +kernel), List.mem_of_getElem? (i := 75) (by decide +kernel), List.mem_of_getElem? (i := 76) (by decide +kernel)⟩
theorem lw_p4 : lw_okq (⟨"ClassGroup", "addName", "(II)V"⟩, 17) := ⟨⟨by decide +kernel, by decide +kernel⟩, List.mem_of_getElem? (i := 13) (by decide +kernel), List.mem_of_getElem? (i := 89) (by decide +kernel), List.mem_of_getElem? (i := 90) (by decide +kernel)⟩
theorem lw_p5 : lw_okq (⟨"ClassGroup", "nameIndefinite", "()V"⟩, 17) := ⟨⟨by decide +kernel, by decide +kernel⟩, List.mem_of_getElem? (i := 13) (by decide +kernel), List.mem_of_getElem? (i := 93) (by decide +kernel), List.mem_of_getElem? (i := 94) (by decide +kernel)⟩
theorem lw_p6 : lw_okq (⟨"ClassGroup", "keepIndefinite", "(III)V"⟩, 17) := ⟨⟨by decide +kernel, by decide +kernel⟩, List.mem_of_getElem? (i := 13) (by decide +kernel), List.mem_of_getElem? (i := 97) (by decide +kernel), List.mem_of_getElem? (i := 98) (by decide +kernel)⟩
theorem lw_p7 : lw_okq (⟨"ClassGroup", "addNameIfLeast", "(III)V"⟩, 17) := ⟨⟨by decide +kernel, by decide +kernel⟩, List.mem_of_getElem? (i := 13) (by decide +kernel), List.mem_of_getElem? (i := 101) (by decide +kernel), List.mem_of_getElem? (i := 102) (by decide +kernel)⟩
theorem lw_p8 : lw_okq (⟨"ClassGroup", "isLeastOfCycle", "(LClassGroup$Form;)Z"⟩, 17) := ⟨⟨by decide +kernel, by decide +kernel⟩, List.mem_of_getElem? (i := 13) (by decide +kernel), List.mem_of_getElem? (i := 109) (by decide +kernel), List.mem_of_getElem? (i := 110) (by decide +kernel)⟩
theorem lw_p9 : lw_okq (⟨"ClassGroup", "step", "(LClassGroup$Form;)V"⟩, 17) := ⟨⟨by decide +kernel, by decide +kernel⟩, List.mem_of_getElem? (i := 13) (by decide +kernel), List.mem_of_getElem? (i := 116) (by decide +kernel), List.mem_of_getElem? (i := 117) (by decide +kernel)⟩
theorem lw_p10 : lw_okq (⟨"ClassGroup", "reduce", "(LClassGroup$Form;)V"⟩, 17) := ⟨⟨by decide +kernel, by decide +kernel⟩, List.mem_of_getElem? (i := 13) (by decide +kernel), List.mem_of_getElem? (i := 128) (by decide +kernel), List.mem_of_getElem? (i := 129) (by decide +kernel)⟩
theorem lw_p11 : lw_okq (⟨"ClassGroup", "isReduced", "(LClassGroup$Form;)Z"⟩, 17) := ⟨⟨by decide +kernel, by decide +kernel⟩, List.mem_of_getElem? (i := 13) (by decide +kernel), List.mem_of_getElem? (i := 132) (by decide +kernel), List.mem_of_getElem? (i := 133) (by decide +kernel)⟩
theorem lw_p12 : lw_okq (⟨"ClassGroup", "leastKey", "(LClassGroup$Form;)I"⟩, 17) := ⟨⟨by decide +kernel, by decide +kernel⟩, List.mem_of_getElem? (i := 13) (by decide +kernel), List.mem_of_getElem? (i := 136) (by decide +kernel), List.mem_of_getElem? (i := 137) (by decide +kernel)⟩
theorem lw_p13 : lw_okq (⟨"ClassGroup", "classAt", "(I)I"⟩, 17) := ⟨⟨by decide +kernel, by decide +kernel⟩, List.mem_of_getElem? (i := 13) (by decide +kernel), List.mem_of_getElem? (i := 143) (by decide +kernel), List.mem_of_getElem? (i := 144) (by decide +kernel)⟩
theorem lw_p14 : lw_okq (⟨"ClassGroup", "isClass", "(I)Z"⟩, 17) := ⟨⟨by decide +kernel, by decide +kernel⟩, List.mem_of_getElem? (i := 13) (by decide +kernel), List.mem_of_getElem? (i := 147) (by decide +kernel), List.mem_of_getElem? (i := 148) (by decide +kernel)⟩
theorem lw_p15 : lw_okq (⟨"ClassGroup", "learnGroup", "()V"⟩, 17) := ⟨⟨by decide +kernel, by decide +kernel⟩, List.mem_of_getElem? (i := 13) (by decide +kernel), List.mem_of_getElem? (i := 207) (by decide +kernel), List.mem_of_getElem? (i := 208) (by decide +kernel)⟩
def lw_privs_1 : List (MethodName × Nat) := [(⟨"ClassGroup", "become", "(I)V"⟩, 17), (⟨"ClassGroup", "nameDefinite", "()V"⟩, 17), (⟨"ClassGroup", "firstLikeD", "(I)I"⟩, 17), (⟨"ClassGroup", "keepDefinite", "(III)V"⟩, 17), (⟨"ClassGroup", "addName", "(II)V"⟩, 17), (⟨"ClassGroup", "nameIndefinite", "()V"⟩, 17), (⟨"ClassGroup", "keepIndefinite", "(III)V"⟩, 17), (⟨"ClassGroup", "addNameIfLeast", "(III)V"⟩, 17), (⟨"ClassGroup", "isLeastOfCycle", "(LClassGroup$Form;)Z"⟩, 17), (⟨"ClassGroup", "step", "(LClassGroup$Form;)V"⟩, 17), (⟨"ClassGroup", "reduce", "(LClassGroup$Form;)V"⟩, 17), (⟨"ClassGroup", "isReduced", "(LClassGroup$Form;)Z"⟩, 17), (⟨"ClassGroup", "leastKey", "(LClassGroup$Form;)I"⟩, 17), (⟨"ClassGroup", "classAt", "(I)I"⟩, 17), (⟨"ClassGroup", "isClass", "(I)Z"⟩, 17), (⟨"ClassGroup", "learnGroup", "()V"⟩, 17)]
theorem lw_r1 : ∀ q ∈ lw_privs_1, lw_okq q := List.forall_mem_cons.mpr ⟨lw_p0, List.forall_mem_cons.mpr ⟨lw_p1, List.forall_mem_cons.mpr ⟨lw_p2, List.forall_mem_cons.mpr ⟨lw_p3, List.forall_mem_cons.mpr ⟨lw_p4, List.forall_mem_cons.mpr ⟨lw_p5, List.forall_mem_cons.mpr ⟨lw_p6, List.forall_mem_cons.mpr ⟨lw_p7, List.forall_mem_cons.mpr ⟨lw_p8, List.forall_mem_cons.mpr ⟨lw_p9, List.forall_mem_cons.mpr ⟨lw_p10, List.forall_mem_cons.mpr ⟨lw_p11, List.forall_mem_cons.mpr ⟨lw_p12, List.forall_mem_cons.mpr ⟨lw_p13, List.forall_mem_cons.mpr ⟨lw_p14, List.forall_mem_cons.mpr ⟨lw_p15, fun _ h => absurd h List.not_mem_nil⟩⟩⟩⟩⟩⟩⟩⟩⟩⟩⟩⟩⟩⟩⟩⟩
theorem lw_p16 : lw_okq (⟨"ClassGroup", "learnOrders", "()V"⟩, 17) := ⟨⟨by decide +kernel, by decide +kernel⟩, List.mem_of_getElem? (i := 13) (by decide +kernel), List.mem_of_getElem? (i := 211) (by decide +kernel), List.mem_of_getElem? (i := 212) (by decide +kernel)⟩
theorem lw_p17 : lw_okq (⟨"ClassGroup", "learnOrdersOfPowers", "(I)V"⟩, 17) := ⟨⟨by decide +kernel, by decide +kernel⟩, List.mem_of_getElem? (i := 13) (by decide +kernel), List.mem_of_getElem? (i := 218) (by decide +kernel), List.mem_of_getElem? (i := 219) (by decide +kernel)⟩
theorem lw_p18 : lw_okq (⟨"ClassGroup", "multiply", "(II)I"⟩, 17) := ⟨⟨by decide +kernel, by decide +kernel⟩, List.mem_of_getElem? (i := 13) (by decide +kernel), List.mem_of_getElem? (i := 222) (by decide +kernel), List.mem_of_getElem? (i := 223) (by decide +kernel)⟩
theorem lw_p19 : lw_okq (⟨"ClassGroup", "setToName", "(LClassGroup$Form;I)V"⟩, 17) := ⟨⟨by decide +kernel, by decide +kernel⟩, List.mem_of_getElem? (i := 13) (by decide +kernel), List.mem_of_getElem? (i := 226) (by decide +kernel), List.mem_of_getElem? (i := 227) (by decide +kernel)⟩
theorem lw_p20 : lw_okq (⟨"ClassGroup", "compose", "(LClassGroup$Form;LClassGroup$Form;)V"⟩, 17) := ⟨⟨by decide +kernel, by decide +kernel⟩, List.mem_of_getElem? (i := 13) (by decide +kernel), List.mem_of_getElem? (i := 233) (by decide +kernel), List.mem_of_getElem? (i := 234) (by decide +kernel)⟩
theorem lw_p21 : lw_okq (⟨"ClassGroup", "nextGenerator", "(I)I"⟩, 17) := ⟨⟨by decide +kernel, by decide +kernel⟩, List.mem_of_getElem? (i := 13) (by decide +kernel), List.mem_of_getElem? (i := 245) (by decide +kernel), List.mem_of_getElem? (i := 246) (by decide +kernel)⟩
theorem lw_p22 : lw_okq (⟨"ClassGroup", "isIndependent", "(I)Z"⟩, 17) := ⟨⟨by decide +kernel, by decide +kernel⟩, List.mem_of_getElem? (i := 13) (by decide +kernel), List.mem_of_getElem? (i := 249) (by decide +kernel), List.mem_of_getElem? (i := 250) (by decide +kernel)⟩
theorem lw_p23 : lw_okq (⟨"ClassGroup", "reachWith", "(II)I"⟩, 17) := ⟨⟨by decide +kernel, by decide +kernel⟩, List.mem_of_getElem? (i := 13) (by decide +kernel), List.mem_of_getElem? (i := 253) (by decide +kernel), List.mem_of_getElem? (i := 254) (by decide +kernel)⟩
theorem lw_p24 : lw_okq (⟨"java/lang/Throwable", "fillInStackTrace", "(I)Ljava/lang/Throwable;"⟩, 6) := ⟨⟨by decide +kernel, by decide +kernel⟩, List.mem_of_getElem? (i := 310) (by decide +kernel), List.mem_of_getElem? (i := 308) (by decide +kernel), List.mem_of_getElem? (i := 309) (by decide +kernel)⟩
theorem lw_p25 : lw_okq (⟨"ClassGroup", "isForm", "(III)Z"⟩, 17) := ⟨⟨by decide +kernel, by decide +kernel⟩, List.mem_of_getElem? (i := 13) (by decide +kernel), List.mem_of_getElem? (i := 371) (by decide +kernel), List.mem_of_getElem? (i := 372) (by decide +kernel)⟩
theorem lw_p26 : lw_okq (⟨"ClassGroup", "isGenerator", "(I)Z"⟩, 17) := ⟨⟨by decide +kernel, by decide +kernel⟩, List.mem_of_getElem? (i := 13) (by decide +kernel), List.mem_of_getElem? (i := 417) (by decide +kernel), List.mem_of_getElem? (i := 418) (by decide +kernel)⟩
theorem lw_p27 : lw_okq (⟨"ClassGroupModel", "begin", "(J)V"⟩, 20) := ⟨⟨by decide +kernel, by decide +kernel⟩, List.mem_of_getElem? (i := 430) (by decide +kernel), List.mem_of_getElem? (i := 439) (by decide +kernel), List.mem_of_getElem? (i := 440) (by decide +kernel)⟩
theorem lw_p28 : lw_okq (⟨"ClassGroupModel", "list", "()V"⟩, 20) := ⟨⟨by decide +kernel, by decide +kernel⟩, List.mem_of_getElem? (i := 430) (by decide +kernel), List.mem_of_getElem? (i := 447) (by decide +kernel), List.mem_of_getElem? (i := 448) (by decide +kernel)⟩
theorem lw_p29 : lw_okq (⟨"ClassGroupModel", "be", "(JJ)V"⟩, 20) := ⟨⟨by decide +kernel, by decide +kernel⟩, List.mem_of_getElem? (i := 430) (by decide +kernel), List.mem_of_getElem? (i := 453) (by decide +kernel), List.mem_of_getElem? (i := 454) (by decide +kernel)⟩
theorem lw_p30 : lw_okq (⟨"ClassGroupModel", "isReduced", "()Z"⟩, 20) := ⟨⟨by decide +kernel, by decide +kernel⟩, List.mem_of_getElem? (i := 430) (by decide +kernel), List.mem_of_getElem? (i := 457) (by decide +kernel), List.mem_of_getElem? (i := 458) (by decide +kernel)⟩
theorem lw_p31 : lw_okq (⟨"ClassGroupModel", "gather", "()V"⟩, 20) := ⟨⟨by decide +kernel, by decide +kernel⟩, List.mem_of_getElem? (i := 430) (by decide +kernel), List.mem_of_getElem? (i := 468) (by decide +kernel), List.mem_of_getElem? (i := 469) (by decide +kernel)⟩
def lw_privs_2 : List (MethodName × Nat) := [(⟨"ClassGroup", "learnOrders", "()V"⟩, 17), (⟨"ClassGroup", "learnOrdersOfPowers", "(I)V"⟩, 17), (⟨"ClassGroup", "multiply", "(II)I"⟩, 17), (⟨"ClassGroup", "setToName", "(LClassGroup$Form;I)V"⟩, 17), (⟨"ClassGroup", "compose", "(LClassGroup$Form;LClassGroup$Form;)V"⟩, 17), (⟨"ClassGroup", "nextGenerator", "(I)I"⟩, 17), (⟨"ClassGroup", "isIndependent", "(I)Z"⟩, 17), (⟨"ClassGroup", "reachWith", "(II)I"⟩, 17), (⟨"java/lang/Throwable", "fillInStackTrace", "(I)Ljava/lang/Throwable;"⟩, 6), (⟨"ClassGroup", "isForm", "(III)Z"⟩, 17), (⟨"ClassGroup", "isGenerator", "(I)Z"⟩, 17), (⟨"ClassGroupModel", "begin", "(J)V"⟩, 20), (⟨"ClassGroupModel", "list", "()V"⟩, 20), (⟨"ClassGroupModel", "be", "(JJ)V"⟩, 20), (⟨"ClassGroupModel", "isReduced", "()Z"⟩, 20), (⟨"ClassGroupModel", "gather", "()V"⟩, 20)]
theorem lw_r2 : ∀ q ∈ lw_privs_2, lw_okq q := List.forall_mem_cons.mpr ⟨lw_p16, List.forall_mem_cons.mpr ⟨lw_p17, List.forall_mem_cons.mpr ⟨lw_p18, List.forall_mem_cons.mpr ⟨lw_p19, List.forall_mem_cons.mpr ⟨lw_p20, List.forall_mem_cons.mpr ⟨lw_p21, List.forall_mem_cons.mpr ⟨lw_p22, List.forall_mem_cons.mpr ⟨lw_p23, List.forall_mem_cons.mpr ⟨lw_p24, List.forall_mem_cons.mpr ⟨lw_p25, List.forall_mem_cons.mpr ⟨lw_p26, List.forall_mem_cons.mpr ⟨lw_p27, List.forall_mem_cons.mpr ⟨lw_p28, List.forall_mem_cons.mpr ⟨lw_p29, List.forall_mem_cons.mpr ⟨lw_p30, List.forall_mem_cons.mpr ⟨lw_p31, fun _ h => absurd h List.not_mem_nil⟩⟩⟩⟩⟩⟩⟩⟩⟩⟩⟩⟩⟩⟩⟩⟩
theorem lw_p32 : lw_okq (⟨"ClassGroupModel", "step", "()V"⟩, 20) := ⟨⟨by decide +kernel, by decide +kernel⟩, List.mem_of_getElem? (i := 430) (by decide +kernel), List.mem_of_getElem? (i := 472) (by decide +kernel), List.mem_of_getElem? (i := 473) (by decide +kernel)⟩
theorem lw_p33 : lw_okq (⟨"ClassGroupModel", "place", "()I"⟩, 20) := ⟨⟨by decide +kernel, by decide +kernel⟩, List.mem_of_getElem? (i := 430) (by decide +kernel), List.mem_of_getElem? (i := 476) (by decide +kernel), List.mem_of_getElem? (i := 477) (by decide +kernel)⟩
theorem lw_p34 : lw_okq (⟨"ClassGroupModel", "found", "()I"⟩, 20) := ⟨⟨by decide +kernel, by decide +kernel⟩, List.mem_of_getElem? (i := 430) (by decide +kernel), List.mem_of_getElem? (i := 480) (by decide +kernel), List.mem_of_getElem? (i := 481) (by decide +kernel)⟩
theorem lw_p35 : lw_okq (⟨"ClassGroupModel", "measure", "(I)V"⟩, 20) := ⟨⟨by decide +kernel, by decide +kernel⟩, List.mem_of_getElem? (i := 430) (by decide +kernel), List.mem_of_getElem? (i := 484) (by decide +kernel), List.mem_of_getElem? (i := 485) (by decide +kernel)⟩
theorem lw_p36 : lw_okq (⟨"ClassGroupModel", "times", "(II)I"⟩, 20) := ⟨⟨by decide +kernel, by decide +kernel⟩, List.mem_of_getElem? (i := 430) (by decide +kernel), List.mem_of_getElem? (i := 488) (by decide +kernel), List.mem_of_getElem? (i := 489) (by decide +kernel)⟩
theorem lw_p37 : lw_okq (⟨"ClassGroupModel", "beName", "(I)V"⟩, 20) := ⟨⟨by decide +kernel, by decide +kernel⟩, List.mem_of_getElem? (i := 430) (by decide +kernel), List.mem_of_getElem? (i := 492) (by decide +kernel), List.mem_of_getElem? (i := 493) (by decide +kernel)⟩
theorem lw_p38 : lw_okq (⟨"ClassGroupModel", "generate", "()V"⟩, 20) := ⟨⟨by decide +kernel, by decide +kernel⟩, List.mem_of_getElem? (i := 430) (by decide +kernel), List.mem_of_getElem? (i := 496) (by decide +kernel), List.mem_of_getElem? (i := 497) (by decide +kernel)⟩
theorem lw_p39 : lw_okq (⟨"ClassGroupModel", "isApart", "(I)Z"⟩, 20) := ⟨⟨by decide +kernel, by decide +kernel⟩, List.mem_of_getElem? (i := 430) (by decide +kernel), List.mem_of_getElem? (i := 500) (by decide +kernel), List.mem_of_getElem? (i := 501) (by decide +kernel)⟩
theorem lw_p40 : lw_okq (⟨"ClassGroupModel", "join", "(I)V"⟩, 20) := ⟨⟨by decide +kernel, by decide +kernel⟩, List.mem_of_getElem? (i := 430) (by decide +kernel), List.mem_of_getElem? (i := 504) (by decide +kernel), List.mem_of_getElem? (i := 505) (by decide +kernel)⟩
theorem lw_p41 : lw_okq (⟨"ClassGroupModel", "isClass", "(I)Z"⟩, 20) := ⟨⟨by decide +kernel, by decide +kernel⟩, List.mem_of_getElem? (i := 430) (by decide +kernel), List.mem_of_getElem? (i := 591) (by decide +kernel), List.mem_of_getElem? (i := 592) (by decide +kernel)⟩
theorem lw_p42 : lw_okq (⟨"ClassGroupModel", "turned", "(I)I"⟩, 20) := ⟨⟨by decide +kernel, by decide +kernel⟩, List.mem_of_getElem? (i := 430) (by decide +kernel), List.mem_of_getElem? (i := 609) (by decide +kernel), List.mem_of_getElem? (i := 610) (by decide +kernel)⟩
theorem lw_p43 : lw_okq (⟨"ClassGroupModel", "raised", "(II)I"⟩, 20) := ⟨⟨by decide +kernel, by decide +kernel⟩, List.mem_of_getElem? (i := 430) (by decide +kernel), List.mem_of_getElem? (i := 617) (by decide +kernel), List.mem_of_getElem? (i := 618) (by decide +kernel)⟩
def lw_privs_3 : List (MethodName × Nat) := [(⟨"ClassGroupModel", "step", "()V"⟩, 20), (⟨"ClassGroupModel", "place", "()I"⟩, 20), (⟨"ClassGroupModel", "found", "()I"⟩, 20), (⟨"ClassGroupModel", "measure", "(I)V"⟩, 20), (⟨"ClassGroupModel", "times", "(II)I"⟩, 20), (⟨"ClassGroupModel", "beName", "(I)V"⟩, 20), (⟨"ClassGroupModel", "generate", "()V"⟩, 20), (⟨"ClassGroupModel", "isApart", "(I)Z"⟩, 20), (⟨"ClassGroupModel", "join", "(I)V"⟩, 20), (⟨"ClassGroupModel", "isClass", "(I)Z"⟩, 20), (⟨"ClassGroupModel", "turned", "(I)I"⟩, 20), (⟨"ClassGroupModel", "raised", "(II)I"⟩, 20)]
theorem lw_r3 : ∀ q ∈ lw_privs_3, lw_okq q := List.forall_mem_cons.mpr ⟨lw_p32, List.forall_mem_cons.mpr ⟨lw_p33, List.forall_mem_cons.mpr ⟨lw_p34, List.forall_mem_cons.mpr ⟨lw_p35, List.forall_mem_cons.mpr ⟨lw_p36, List.forall_mem_cons.mpr ⟨lw_p37, List.forall_mem_cons.mpr ⟨lw_p38, List.forall_mem_cons.mpr ⟨lw_p39, List.forall_mem_cons.mpr ⟨lw_p40, List.forall_mem_cons.mpr ⟨lw_p41, List.forall_mem_cons.mpr ⟨lw_p42, List.forall_mem_cons.mpr ⟨lw_p43, fun _ h => absurd h List.not_mem_nil⟩⟩⟩⟩⟩⟩⟩⟩⟩⟩⟩⟩
def lw_privs : List (MethodName × Nat) := lw_privs_1 ++ (lw_privs_2 ++ (lw_privs_3))
def lw_tbl : List Cond := k2_sels lw_privs ++ tables_1
theorem lw_privs_ok : ∀ q ∈ lw_privs, lw_okq q := by
  show ∀ q ∈ lw_privs_1 ++ (lw_privs_2 ++ (lw_privs_3)), lw_okq q
  exact List.forall_mem_append.mpr ⟨lw_r1, List.forall_mem_append.mpr ⟨lw_r2, lw_r3⟩⟩
def wT : List Cond := lw_tbl.filter goodWord
theorem wT_mem {w : Cond} (h : w ∈ lw_tbl) (g : goodWord w = true) : w ∈ wT := List.mem_filter.mpr ⟨h, g⟩
theorem wT_good {w : Cond} (h : w ∈ wT) : (w.onTables && w.keeps) = true ∨ ∃ ty, w = .arrayClass ty := good_of_word (List.mem_filter.mp h).2
theorem gw_all {c0 : Cond} {ws : List Cond} (h : ∀ w ∈ ws, w ∈ wT) : GoodIn (c0 :: wT) ws := fun w hw => ⟨List.mem_cons_of_mem _ (h w hw), wT_good (h w hw)⟩
theorem gw_c {c1 : Cond} (h : c1 ∈ wT) : ∀ w ∈ c1 :: wT, w ∈ wT := fun w hw => (List.mem_cons.mp hw).elim (fun e => by rw [e]; exact h) id
theorem gwI {c0 c1 : Cond} (h : c1 ∈ wT) : GoodIn (c0 :: wT) (c1 :: wT) := gw_all (gw_c h)
theorem gwV {c0 c1 : Cond} {own C : String} {idx : Nat} {y : MethodName} (h1 : Cond.methodLink own idx y ∈ wT) (h2 : Cond.instanceMethod y ∈ wT) (h3 : Cond.selects C y y ∈ wT) (h4 : Cond.initialized C ∈ wT) (h5 : c1 ∈ wT) : GoodIn (c0 :: wT) (wsV own idx C y (c1 :: wT)) := gw_all (by
  intro w hw
  rcases List.mem_append.mp hw with h | h
  · simp only [List.mem_cons, List.not_mem_nil, or_false] at h
    rcases h with rfl | rfl | rfl | rfl
    · exact h1
    · exact h2
    · exact h3
    · exact h4
  · exact gw_c h5 w h)
theorem gwS {c0 c1 : Cond} {own : String} {idx : Nat} {y : MethodName} (h1 : Cond.methodLink own idx y ∈ wT) (h2 : Cond.static y ∈ wT) (h4 : Cond.initialized y.cls ∈ wT) (h5 : c1 ∈ wT) : GoodIn (c0 :: wT) (va_wsS own idx y (c1 :: wT)) := gw_all (by
  intro w hw
  rcases List.mem_append.mp hw with h | h
  · simp only [List.mem_cons, List.not_mem_nil, or_false] at h
    rcases h with rfl | rfl | rfl
    · exact h1
    · exact h2
    · exact h4
  · exact gw_c h5 w h)
/-! words of the pure functions: names, guards, binds -/
abbrev bnd {α β : Type} (x : α) (k : α → β) : β := k x
theorem bnd_ok {α β : Type} {x y : α} {k : α → Option β} {r : β} (e : y = x) (h : bnd x k = some r) : k y = some r := by rw [e]; exact h
theorem ok_t {β : Type} {c : Prop} [Decidable c] {a b : Option β} {r : β} (h : c) (e : (if c then a else b) = some r) : a = some r := by rw [if_pos h] at e; exact e
theorem ok_f {β : Type} {c : Prop} [Decidable c] {a b : Option β} {r : β} (h : ¬ c) (e : (if c then a else b) = some r) : b = some r := by rw [if_neg h] at e; exact e
theorem ok_g {β : Type} {c : Prop} [Decidable c] {a : Option β} {r : β} (e : (if c then a else none) = some r) : c ∧ a = some r := by
  by_cases h : c
  · rw [if_pos h] at e; exact ⟨h, e⟩
  · rw [if_neg h] at e; cases e
theorem ok_b {α β : Type} {o : Option α} {k : α → Option β} {r : β} (e : Option.bind o k = some r) : ∃ x, o = some x ∧ k x = some r := by
  cases o with
  | none => cases e
  | some x => exact ⟨x, rfl, e⟩
abbrev vin (i : Int32) (n : Nat) : Prop := ¬ (i < 0 ∨ n ≤ i.toNatClampNeg)
theorem bnd_ex {α β : Type} {x : α} {k : α → Option β} {r : β} (h : bnd x k = some r) : ∃ y, y = x ∧ k y = some r := ⟨x, rfl, h⟩

def TX0 : u_T := fun k => match k with
  | 0 => ("ClassGroup", "d", "I", false)
  | 1 => ("ClassGroup", "root", "I", false)
  | 2 => ("ClassGroup", "classes", "I", false)
  | 3 => ("ClassGroup", "reducedForms", "I", false)
  | 4 => ("ClassGroup", "principal", "I", false)
  | 5 => ("ClassGroup", "names", "[I", true)
  | 6 => ("ClassGroup", "groupKnown", "Z", false)
  | 7 => ("ClassGroup", "greatestOrder", "I", false)
  | 8 => ("ClassGroup", "generatorCount", "I", false)
  | 9 => ("ClassGroup", "generators", "[I", true)
  | 10 => ("ClassGroup", "strides", "[I", true)
  | 11 => ("ClassGroup", "orders", "[I", true)
  | 12 => ("ClassGroup", "codes", "[I", true)
  | 13 => ("ClassGroup", "elements", "[I", true)
  | 14 => ("ClassGroup", "one", "LClassGroup$Form;", true)
  | 15 => ("ClassGroup", "two", "LClassGroup$Form;", true)
  | _ => ("ClassGroup", "bezout", "LClassGroup$Bezout;", true)
def tyX0 : Nat → FieldType := fun k => match k with
  | 0 => .int
  | 1 => .int
  | 2 => .int
  | 3 => .int
  | 4 => .int
  | 5 => (.array .int)
  | 6 => .boolean
  | 7 => .int
  | 8 => .int
  | 9 => (.array .int)
  | 10 => (.array .int)
  | 11 => (.array .int)
  | 12 => (.array .int)
  | 13 => (.array .int)
  | 14 => (.object "ClassGroup$Form")
  | 15 => (.object "ClassGroup$Form")
  | _ => (.object "ClassGroup$Bezout")
theorem nmX0 : ∀ a, a < 17 → ∀ b, b < 17 → a ≠ b → (TX0 a).2.1 ≠ (TX0 b).2.1 := by decide +kernel
theorem tyokX0 : ∀ k, k < 17 → parseFieldDescriptor (TX0 k).2.2.1 = some (tyX0 k) := by decide +kernel
theorem iwX0 : ∀ w ∈ u_ws "ClassGroup" TX0 17, w ∈ wT := fun w h => List.mem_filter.mpr ⟨List.mem_append_right _ ((show ∀ w ∈ u_ws "ClassGroup" TX0 17, w ∈ tables_1 by decide +kernel) w h), (show ∀ w ∈ u_ws "ClassGroup" TX0 17, goodWord w = true by decide +kernel) w h⟩
def TX1 : u_T := fun k => match k with
  | 0 => ("ClassGroup$Form", "a", "J", false)
  | 1 => ("ClassGroup$Form", "b", "J", false)
  | _ => ("ClassGroup$Form", "c", "J", false)
def tyX1 : Nat → FieldType := fun k => match k with
  | 0 => .long
  | 1 => .long
  | _ => .long
theorem nmX1 : ∀ a, a < 3 → ∀ b, b < 3 → a ≠ b → (TX1 a).2.1 ≠ (TX1 b).2.1 := by decide +kernel
theorem tyokX1 : ∀ k, k < 3 → parseFieldDescriptor (TX1 k).2.2.1 = some (tyX1 k) := by decide +kernel
theorem iwX1 : ∀ w ∈ u_ws "ClassGroup$Form" TX1 3, w ∈ wT := fun w h => List.mem_filter.mpr ⟨List.mem_append_right _ ((show ∀ w ∈ u_ws "ClassGroup$Form" TX1 3, w ∈ tables_1 by decide +kernel) w h), (show ∀ w ∈ u_ws "ClassGroup$Form" TX1 3, goodWord w = true by decide +kernel) w h⟩
def TX2 : u_T := fun k => match k with
  | 0 => ("ClassGroup$Bezout", "greatest", "J", false)
  | 1 => ("ClassGroup$Bezout", "first", "J", false)
  | _ => ("ClassGroup$Bezout", "second", "J", false)
def tyX2 : Nat → FieldType := fun k => match k with
  | 0 => .long
  | 1 => .long
  | _ => .long
theorem nmX2 : ∀ a, a < 3 → ∀ b, b < 3 → a ≠ b → (TX2 a).2.1 ≠ (TX2 b).2.1 := by decide +kernel
theorem tyokX2 : ∀ k, k < 3 → parseFieldDescriptor (TX2 k).2.2.1 = some (tyX2 k) := by decide +kernel
theorem iwX2 : ∀ w ∈ u_ws "ClassGroup$Bezout" TX2 3, w ∈ wT := fun w h => List.mem_filter.mpr ⟨List.mem_append_right _ ((show ∀ w ∈ u_ws "ClassGroup$Bezout" TX2 3, w ∈ tables_1 by decide +kernel) w h), (show ∀ w ∈ u_ws "ClassGroup$Bezout" TX2 3, goodWord w = true by decide +kernel) w h⟩
def TX3 : u_T := fun k => match k with
  | 0 => ("ClassGroupModel", "code", "I", false)
  | 1 => ("ClassGroupModel", "d", "J", false)
  | 2 => ("ClassGroupModel", "w", "J", false)
  | 3 => ("ClassGroupModel", "forms", "I", false)
  | 4 => ("ClassGroupModel", "first", "[I", true)
  | 5 => ("ClassGroupModel", "middle", "[I", true)
  | 6 => ("ClassGroupModel", "classes", "[I", true)
  | 7 => ("ClassGroupModel", "many", "I", false)
  | 8 => ("ClassGroupModel", "names", "[I", true)
  | 9 => ("ClassGroupModel", "orders", "[I", true)
  | 10 => ("ClassGroupModel", "inside", "[Z", true)
  | 11 => ("ClassGroupModel", "exponents", "[I", true)
  | 12 => ("ClassGroupModel", "principal", "I", false)
  | 13 => ("ClassGroupModel", "generators", "I", false)
  | 14 => ("ClassGroupModel", "generator", "[I", true)
  | 15 => ("ClassGroupModel", "listed", "I", false)
  | 16 => ("ClassGroupModel", "list", "[I", true)
  | 17 => ("ClassGroupModel", "a", "J", false)
  | 18 => ("ClassGroupModel", "b", "J", false)
  | _ => ("ClassGroupModel", "c", "J", false)
def tyX3 : Nat → FieldType := fun k => match k with
  | 0 => .int
  | 1 => .long
  | 2 => .long
  | 3 => .int
  | 4 => (.array .int)
  | 5 => (.array .int)
  | 6 => (.array .int)
  | 7 => .int
  | 8 => (.array .int)
  | 9 => (.array .int)
  | 10 => (.array .boolean)
  | 11 => (.array .int)
  | 12 => .int
  | 13 => .int
  | 14 => (.array .int)
  | 15 => .int
  | 16 => (.array .int)
  | 17 => .long
  | 18 => .long
  | _ => .long
theorem nmX3 : ∀ a, a < 20 → ∀ b, b < 20 → a ≠ b → (TX3 a).2.1 ≠ (TX3 b).2.1 := by decide +kernel
theorem tyokX3 : ∀ k, k < 20 → parseFieldDescriptor (TX3 k).2.2.1 = some (tyX3 k) := by decide +kernel
theorem iwX3 : ∀ w ∈ u_ws "ClassGroupModel" TX3 20, w ∈ wT := fun w h => List.mem_filter.mpr ⟨List.mem_append_right _ ((show ∀ w ∈ u_ws "ClassGroupModel" TX3 20, w ∈ tables_1 by decide +kernel) w h), (show ∀ w ∈ u_ws "ClassGroupModel" TX3 20, goodWord w = true by decide +kernel) w h⟩
abbrev vwCl : List vw_C := [("ClassGroup", TX0, 17), ("ClassGroup$Form", TX1, 3), ("ClassGroup$Bezout", TX2, 3), ("ClassGroupModel", TX3, 20)]
