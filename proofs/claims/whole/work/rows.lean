section
-- ===== PART A: goes FIRST, ahead of the names: the tables' words, and 'selects' of the private methods out of them =====
/-- a private method of a class that the tables say can be made, by its rows of tables_1 -/
def lw_okq (q : MethodName × Nat) : Prop := (q.1.cls ≠ "java/lang/invoke/MethodHandle" ∧ q.1.cls ≠ "java/lang/invoke/VarHandle") ∧ Cond.instantiable q.1.cls q.2 ∈ tables_1 ∧ Cond.privateMethod q.1 ∈ tables_1 ∧ Cond.instanceMethod q.1 ∈ tables_1
theorem lw_p0 : lw_okq (⟨"GradeGraph$Graph", "arrange", "()V"⟩, 5) := ⟨⟨by decide +kernel, by decide +kernel⟩, List.mem_of_getElem? (i := 29) (by decide +kernel), List.mem_of_getElem? (i := 255) (by decide +kernel), List.mem_of_getElem? (i := 256) (by decide +kernel)⟩
theorem lw_p1 : lw_okq (⟨"GradeGraph$Graph", "firstReady", "(I)I"⟩, 5) := ⟨⟨by decide +kernel, by decide +kernel⟩, List.mem_of_getElem? (i := 29) (by decide +kernel), List.mem_of_getElem? (i := 259) (by decide +kernel), List.mem_of_getElem? (i := 260) (by decide +kernel)⟩
theorem lw_p2 : lw_okq (⟨"GradeGraph$Graph", "depthBehindInputs", "(LGradeGraph$Node;)I"⟩, 5) := ⟨⟨by decide +kernel, by decide +kernel⟩, List.mem_of_getElem? (i := 29) (by decide +kernel), List.mem_of_getElem? (i := 270) (by decide +kernel), List.mem_of_getElem? (i := 271) (by decide +kernel)⟩
theorem lw_p3 : lw_okq (⟨"GradeGraph$Cache", "remove", "(I)V"⟩, 8) := ⟨⟨by decide +kernel, by decide +kernel⟩, List.mem_of_getElem? (i := 90) (by decide +kernel), List.mem_of_getElem? (i := 316) (by decide +kernel), List.mem_of_getElem? (i := 317) (by decide +kernel)⟩
theorem lw_p4 : lw_okq (⟨"GradeGraph", "ask", "(III)[I"⟩, 6) := ⟨⟨by decide +kernel, by decide +kernel⟩, List.mem_of_getElem? (i := 21) (by decide +kernel), List.mem_of_getElem? (i := 380) (by decide +kernel), List.mem_of_getElem? (i := 381) (by decide +kernel)⟩
theorem lw_p5 : lw_okq (⟨"GradeGraph$Cache", "touch", "(LGradeGraph$Picture;)V"⟩, 8) := ⟨⟨by decide +kernel, by decide +kernel⟩, List.mem_of_getElem? (i := 90) (by decide +kernel), List.mem_of_getElem? (i := 392) (by decide +kernel), List.mem_of_getElem? (i := 393) (by decide +kernel)⟩
theorem lw_p6 : lw_okq (⟨"GradeGraph$Cache", "dropOldest", "()V"⟩, 8) := ⟨⟨by decide +kernel, by decide +kernel⟩, List.mem_of_getElem? (i := 90) (by decide +kernel), List.mem_of_getElem? (i := 400) (by decide +kernel), List.mem_of_getElem? (i := 401) (by decide +kernel)⟩
theorem lw_p7 : lw_okq (⟨"GradeGraph$Reader", "expression", "(I)I"⟩, 7) := ⟨⟨by decide +kernel, by decide +kernel⟩, List.mem_of_getElem? (i := 148) (by decide +kernel), List.mem_of_getElem? (i := 513) (by decide +kernel), List.mem_of_getElem? (i := 514) (by decide +kernel)⟩
theorem lw_p8 : lw_okq (⟨"GradeGraph$Reader", "kindHere", "()I"⟩, 7) := ⟨⟨by decide +kernel, by decide +kernel⟩, List.mem_of_getElem? (i := 148) (by decide +kernel), List.mem_of_getElem? (i := 517) (by decide +kernel), List.mem_of_getElem? (i := 518) (by decide +kernel)⟩
theorem lw_p9 : lw_okq (⟨"GradeGraph$Reader", "expect", "(I)V"⟩, 7) := ⟨⟨by decide +kernel, by decide +kernel⟩, List.mem_of_getElem? (i := 148) (by decide +kernel), List.mem_of_getElem? (i := 609) (by decide +kernel), List.mem_of_getElem? (i := 610) (by decide +kernel)⟩
theorem lw_p10 : lw_okq (⟨"GradeGraph$Reader", "readNumber", "(II)I"⟩, 7) := ⟨⟨by decide +kernel, by decide +kernel⟩, List.mem_of_getElem? (i := 148) (by decide +kernel), List.mem_of_getElem? (i := 613) (by decide +kernel), List.mem_of_getElem? (i := 614) (by decide +kernel)⟩
theorem lw_p11 : lw_okq (⟨"GradeGraph$Reader", "readDigits", "()I"⟩, 7) := ⟨⟨by decide +kernel, by decide +kernel⟩, List.mem_of_getElem? (i := 148) (by decide +kernel), List.mem_of_getElem? (i := 617) (by decide +kernel), List.mem_of_getElem? (i := 618) (by decide +kernel)⟩
theorem lw_p12 : lw_okq (⟨"GradeGraph$Reader", "newNode", "(II)I"⟩, 7) := ⟨⟨by decide +kernel, by decide +kernel⟩, List.mem_of_getElem? (i := 148) (by decide +kernel), List.mem_of_getElem? (i := 622) (by decide +kernel), List.mem_of_getElem? (i := 623) (by decide +kernel)⟩
theorem lw_p13 : lw_okq (⟨"GradeGraph$Reader", "nextExpression", "(I)I"⟩, 7) := ⟨⟨by decide +kernel, by decide +kernel⟩, List.mem_of_getElem? (i := 148) (by decide +kernel), List.mem_of_getElem? (i := 627) (by decide +kernel), List.mem_of_getElem? (i := 628) (by decide +kernel)⟩
theorem lw_p14 : lw_okq (⟨"GradeGraph$Reader", "fill", "(LGradeGraph$Node;IIII)V"⟩, 7) := ⟨⟨by decide +kernel, by decide +kernel⟩, List.mem_of_getElem? (i := 148) (by decide +kernel), List.mem_of_getElem? (i := 638) (by decide +kernel), List.mem_of_getElem? (i := 639) (by decide +kernel)⟩
theorem lw_p15 : lw_okq (⟨"GradeGraph", "mixNode", "(JI)J"⟩, 6) := ⟨⟨by decide +kernel, by decide +kernel⟩, List.mem_of_getElem? (i := 21) (by decide +kernel), List.mem_of_getElem? (i := 689) (by decide +kernel), List.mem_of_getElem? (i := 690) (by decide +kernel)⟩
def lw_privs_1 : List (MethodName × Nat) := [(⟨"GradeGraph$Graph", "arrange", "()V"⟩, 5), (⟨"GradeGraph$Graph", "firstReady", "(I)I"⟩, 5), (⟨"GradeGraph$Graph", "depthBehindInputs", "(LGradeGraph$Node;)I"⟩, 5), (⟨"GradeGraph$Cache", "remove", "(I)V"⟩, 8), (⟨"GradeGraph", "ask", "(III)[I"⟩, 6), (⟨"GradeGraph$Cache", "touch", "(LGradeGraph$Picture;)V"⟩, 8), (⟨"GradeGraph$Cache", "dropOldest", "()V"⟩, 8), (⟨"GradeGraph$Reader", "expression", "(I)I"⟩, 7), (⟨"GradeGraph$Reader", "kindHere", "()I"⟩, 7), (⟨"GradeGraph$Reader", "expect", "(I)V"⟩, 7), (⟨"GradeGraph$Reader", "readNumber", "(II)I"⟩, 7), (⟨"GradeGraph$Reader", "readDigits", "()I"⟩, 7), (⟨"GradeGraph$Reader", "newNode", "(II)I"⟩, 7), (⟨"GradeGraph$Reader", "nextExpression", "(I)I"⟩, 7), (⟨"GradeGraph$Reader", "fill", "(LGradeGraph$Node;IIII)V"⟩, 7), (⟨"GradeGraph", "mixNode", "(JI)J"⟩, 6)]
theorem lw_r1 : ∀ q ∈ lw_privs_1, lw_okq q := List.forall_mem_cons.mpr ⟨lw_p0, List.forall_mem_cons.mpr ⟨lw_p1, List.forall_mem_cons.mpr ⟨lw_p2, List.forall_mem_cons.mpr ⟨lw_p3, List.forall_mem_cons.mpr ⟨lw_p4, List.forall_mem_cons.mpr ⟨lw_p5, List.forall_mem_cons.mpr ⟨lw_p6, List.forall_mem_cons.mpr ⟨lw_p7, List.forall_mem_cons.mpr ⟨lw_p8, List.forall_mem_cons.mpr ⟨lw_p9, List.forall_mem_cons.mpr ⟨lw_p10, List.forall_mem_cons.mpr ⟨lw_p11, List.forall_mem_cons.mpr ⟨lw_p12, List.forall_mem_cons.mpr ⟨lw_p13, List.forall_mem_cons.mpr ⟨lw_p14, List.forall_mem_cons.mpr ⟨lw_p15, fun _ h => absurd h List.not_mem_nil⟩⟩⟩⟩⟩⟩⟩⟩⟩⟩⟩⟩⟩⟩⟩⟩
theorem lw_p16 : lw_okq (⟨"GradeGraphModel", "adds", "(I)I"⟩, 28) := ⟨⟨by decide +kernel, by decide +kernel⟩, List.mem_of_getElem? (i := 700) (by decide +kernel), List.mem_of_getElem? (i := 802) (by decide +kernel), List.mem_of_getElem? (i := 803) (by decide +kernel)⟩
theorem lw_p17 : lw_okq (⟨"GradeGraphModel", "isInput", "(II)Z"⟩, 28) := ⟨⟨by decide +kernel, by decide +kernel⟩, List.mem_of_getElem? (i := 700) (by decide +kernel), List.mem_of_getElem? (i := 816) (by decide +kernel), List.mem_of_getElem? (i := 817) (by decide +kernel)⟩
theorem lw_p18 : lw_okq (⟨"GradeGraphModel", "isNode", "(I)Z"⟩, 28) := ⟨⟨by decide +kernel, by decide +kernel⟩, List.mem_of_getElem? (i := 700) (by decide +kernel), List.mem_of_getElem? (i := 820) (by decide +kernel), List.mem_of_getElem? (i := 821) (by decide +kernel)⟩
theorem lw_p19 : lw_okq (⟨"GradeGraphModel", "kind", "(I)I"⟩, 28) := ⟨⟨by decide +kernel, by decide +kernel⟩, List.mem_of_getElem? (i := 700) (by decide +kernel), List.mem_of_getElem? (i := 824) (by decide +kernel), List.mem_of_getElem? (i := 825) (by decide +kernel)⟩
theorem lw_p20 : lw_okq (⟨"GradeGraphModel", "dependents", "(I)I"⟩, 28) := ⟨⟨by decide +kernel, by decide +kernel⟩, List.mem_of_getElem? (i := 700) (by decide +kernel), List.mem_of_getElem? (i := 828) (by decide +kernel), List.mem_of_getElem? (i := 829) (by decide +kernel)⟩
theorem lw_p21 : lw_okq (⟨"GradeGraphModel", "voids", "(IIIII)I"⟩, 28) := ⟨⟨by decide +kernel, by decide +kernel⟩, List.mem_of_getElem? (i := 700) (by decide +kernel), List.mem_of_getElem? (i := 832) (by decide +kernel), List.mem_of_getElem? (i := 833) (by decide +kernel)⟩
theorem lw_p22 : lw_okq (⟨"GradeGraphModel", "drops", "(I)V"⟩, 28) := ⟨⟨by decide +kernel, by decide +kernel⟩, List.mem_of_getElem? (i := 700) (by decide +kernel), List.mem_of_getElem? (i := 836) (by decide +kernel), List.mem_of_getElem? (i := 837) (by decide +kernel)⟩
theorem lw_p23 : lw_okq (⟨"GradeGraphModel", "isParameter", "(II)Z"⟩, 28) := ⟨⟨by decide +kernel, by decide +kernel⟩, List.mem_of_getElem? (i := 700) (by decide +kernel), List.mem_of_getElem? (i := 844) (by decide +kernel), List.mem_of_getElem? (i := 845) (by decide +kernel)⟩
theorem lw_p24 : lw_okq (⟨"GradeGraphModel", "nodeTells", "(II)I"⟩, 28) := ⟨⟨by decide +kernel, by decide +kernel⟩, List.mem_of_getElem? (i := 700) (by decide +kernel), List.mem_of_getElem? (i := 866) (by decide +kernel), List.mem_of_getElem? (i := 867) (by decide +kernel)⟩
theorem lw_p25 : lw_okq (⟨"GradeGraphModel", "placeOf", "(I)I"⟩, 28) := ⟨⟨by decide +kernel, by decide +kernel⟩, List.mem_of_getElem? (i := 700) (by decide +kernel), List.mem_of_getElem? (i := 873) (by decide +kernel), List.mem_of_getElem? (i := 874) (by decide +kernel)⟩
theorem lw_p26 : lw_okq (⟨"GradeGraphModel", "isReady", "(II)Z"⟩, 28) := ⟨⟨by decide +kernel, by decide +kernel⟩, List.mem_of_getElem? (i := 700) (by decide +kernel), List.mem_of_getElem? (i := 877) (by decide +kernel), List.mem_of_getElem? (i := 878) (by decide +kernel)⟩
theorem lw_p27 : lw_okq (⟨"GradeGraphModel", "depthOf", "(I)I"⟩, 28) := ⟨⟨by decide +kernel, by decide +kernel⟩, List.mem_of_getElem? (i := 700) (by decide +kernel), List.mem_of_getElem? (i := 881) (by decide +kernel), List.mem_of_getElem? (i := 882) (by decide +kernel)⟩
theorem lw_p28 : lw_okq (⟨"GradeGraphModel", "isPicture", "(II)Z"⟩, 28) := ⟨⟨by decide +kernel, by decide +kernel⟩, List.mem_of_getElem? (i := 700) (by decide +kernel), List.mem_of_getElem? (i := 897) (by decide +kernel), List.mem_of_getElem? (i := 898) (by decide +kernel)⟩
theorem lw_p29 : lw_okq (⟨"GradeGraphModel", "picture", "(II)I"⟩, 28) := ⟨⟨by decide +kernel, by decide +kernel⟩, List.mem_of_getElem? (i := 700) (by decide +kernel), List.mem_of_getElem? (i := 901) (by decide +kernel), List.mem_of_getElem? (i := 902) (by decide +kernel)⟩
theorem lw_p30 : lw_okq (⟨"GradeGraphModel", "asks", "(II)V"⟩, 28) := ⟨⟨by decide +kernel, by decide +kernel⟩, List.mem_of_getElem? (i := 700) (by decide +kernel), List.mem_of_getElem? (i := 905) (by decide +kernel), List.mem_of_getElem? (i := 906) (by decide +kernel)⟩
theorem lw_p31 : lw_okq (⟨"GradeGraphModel", "find", "(II)I"⟩, 28) := ⟨⟨by decide +kernel, by decide +kernel⟩, List.mem_of_getElem? (i := 700) (by decide +kernel), List.mem_of_getElem? (i := 909) (by decide +kernel), List.mem_of_getElem? (i := 910) (by decide +kernel)⟩
def lw_privs_2 : List (MethodName × Nat) := [(⟨"GradeGraphModel", "adds", "(I)I"⟩, 28), (⟨"GradeGraphModel", "isInput", "(II)Z"⟩, 28), (⟨"GradeGraphModel", "isNode", "(I)Z"⟩, 28), (⟨"GradeGraphModel", "kind", "(I)I"⟩, 28), (⟨"GradeGraphModel", "dependents", "(I)I"⟩, 28), (⟨"GradeGraphModel", "voids", "(IIIII)I"⟩, 28), (⟨"GradeGraphModel", "drops", "(I)V"⟩, 28), (⟨"GradeGraphModel", "isParameter", "(II)Z"⟩, 28), (⟨"GradeGraphModel", "nodeTells", "(II)I"⟩, 28), (⟨"GradeGraphModel", "placeOf", "(I)I"⟩, 28), (⟨"GradeGraphModel", "isReady", "(II)Z"⟩, 28), (⟨"GradeGraphModel", "depthOf", "(I)I"⟩, 28), (⟨"GradeGraphModel", "isPicture", "(II)Z"⟩, 28), (⟨"GradeGraphModel", "picture", "(II)I"⟩, 28), (⟨"GradeGraphModel", "asks", "(II)V"⟩, 28), (⟨"GradeGraphModel", "find", "(II)I"⟩, 28)]
theorem lw_r2 : ∀ q ∈ lw_privs_2, lw_okq q := List.forall_mem_cons.mpr ⟨lw_p16, List.forall_mem_cons.mpr ⟨lw_p17, List.forall_mem_cons.mpr ⟨lw_p18, List.forall_mem_cons.mpr ⟨lw_p19, List.forall_mem_cons.mpr ⟨lw_p20, List.forall_mem_cons.mpr ⟨lw_p21, List.forall_mem_cons.mpr ⟨lw_p22, List.forall_mem_cons.mpr ⟨lw_p23, List.forall_mem_cons.mpr ⟨lw_p24, List.forall_mem_cons.mpr ⟨lw_p25, List.forall_mem_cons.mpr ⟨lw_p26, List.forall_mem_cons.mpr ⟨lw_p27, List.forall_mem_cons.mpr ⟨lw_p28, List.forall_mem_cons.mpr ⟨lw_p29, List.forall_mem_cons.mpr ⟨lw_p30, List.forall_mem_cons.mpr ⟨lw_p31, fun _ h => absurd h List.not_mem_nil⟩⟩⟩⟩⟩⟩⟩⟩⟩⟩⟩⟩⟩⟩⟩⟩
theorem lw_p32 : lw_okq (⟨"GradeGraphModel", "uses", "(I)V"⟩, 28) := ⟨⟨by decide +kernel, by decide +kernel⟩, List.mem_of_getElem? (i := 700) (by decide +kernel), List.mem_of_getElem? (i := 913) (by decide +kernel), List.mem_of_getElem? (i := 914) (by decide +kernel)⟩
theorem lw_p33 : lw_okq (⟨"GradeGraphModel", "isInRange", "(II)Z"⟩, 28) := ⟨⟨by decide +kernel, by decide +kernel⟩, List.mem_of_getElem? (i := 700) (by decide +kernel), List.mem_of_getElem? (i := 917) (by decide +kernel), List.mem_of_getElem? (i := 918) (by decide +kernel)⟩
theorem lw_p34 : lw_okq (⟨"GradeGraphModel", "makes", "(II)V"⟩, 28) := ⟨⟨by decide +kernel, by decide +kernel⟩, List.mem_of_getElem? (i := 700) (by decide +kernel), List.mem_of_getElem? (i := 921) (by decide +kernel), List.mem_of_getElem? (i := 922) (by decide +kernel)⟩
theorem lw_p35 : lw_okq (⟨"GradeGraphModel", "makesRoom", "(I)V"⟩, 28) := ⟨⟨by decide +kernel, by decide +kernel⟩, List.mem_of_getElem? (i := 700) (by decide +kernel), List.mem_of_getElem? (i := 925) (by decide +kernel), List.mem_of_getElem? (i := 926) (by decide +kernel)⟩
theorem lw_p36 : lw_okq (⟨"GradeGraphModel", "oldest", "()I"⟩, 28) := ⟨⟨by decide +kernel, by decide +kernel⟩, List.mem_of_getElem? (i := 700) (by decide +kernel), List.mem_of_getElem? (i := 929) (by decide +kernel), List.mem_of_getElem? (i := 930) (by decide +kernel)⟩
theorem lw_p37 : lw_okq (⟨"GradeGraphModel", "made", "(III)I"⟩, 28) := ⟨⟨by decide +kernel, by decide +kernel⟩, List.mem_of_getElem? (i := 700) (by decide +kernel), List.mem_of_getElem? (i := 933) (by decide +kernel), List.mem_of_getElem? (i := 934) (by decide +kernel)⟩
theorem lw_p38 : lw_okq (⟨"GradeGraphModel", "seen", "(IIII)I"⟩, 28) := ⟨⟨by decide +kernel, by decide +kernel⟩, List.mem_of_getElem? (i := 700) (by decide +kernel), List.mem_of_getElem? (i := 937) (by decide +kernel), List.mem_of_getElem? (i := 938) (by decide +kernel)⟩
theorem lw_p39 : lw_okq (⟨"GradeGraphModel", "blurred", "(IIII)I"⟩, 28) := ⟨⟨by decide +kernel, by decide +kernel⟩, List.mem_of_getElem? (i := 700) (by decide +kernel), List.mem_of_getElem? (i := 944) (by decide +kernel), List.mem_of_getElem? (i := 945) (by decide +kernel)⟩
theorem lw_p40 : lw_okq (⟨"GradeGraphModel", "sums", "(II)I"⟩, 28) := ⟨⟨by decide +kernel, by decide +kernel⟩, List.mem_of_getElem? (i := 700) (by decide +kernel), List.mem_of_getElem? (i := 959) (by decide +kernel), List.mem_of_getElem? (i := 960) (by decide +kernel)⟩
theorem lw_p41 : lw_okq (⟨"GradeGraphModel", "countOf", "(I)I"⟩, 28) := ⟨⟨by decide +kernel, by decide +kernel⟩, List.mem_of_getElem? (i := 700) (by decide +kernel), List.mem_of_getElem? (i := 979) (by decide +kernel), List.mem_of_getElem? (i := 980) (by decide +kernel)⟩
theorem lw_p42 : lw_okq (⟨"GradeGraphModel", "isText", "()Z"⟩, 28) := ⟨⟨by decide +kernel, by decide +kernel⟩, List.mem_of_getElem? (i := 700) (by decide +kernel), List.mem_of_getElem? (i := 995) (by decide +kernel), List.mem_of_getElem? (i := 996) (by decide +kernel)⟩
theorem lw_p43 : lw_okq (⟨"GradeGraphModel", "begins", "()Z"⟩, 28) := ⟨⟨by decide +kernel, by decide +kernel⟩, List.mem_of_getElem? (i := 700) (by decide +kernel), List.mem_of_getElem? (i := 999) (by decide +kernel), List.mem_of_getElem? (i := 1000) (by decide +kernel)⟩
theorem lw_p44 : lw_okq (⟨"GradeGraphModel", "kindHere", "()I"⟩, 28) := ⟨⟨by decide +kernel, by decide +kernel⟩, List.mem_of_getElem? (i := 700) (by decide +kernel), List.mem_of_getElem? (i := 1003) (by decide +kernel), List.mem_of_getElem? (i := 1004) (by decide +kernel)⟩
theorem lw_p45 : lw_okq (⟨"GradeGraphModel", "here", "()I"⟩, 28) := ⟨⟨by decide +kernel, by decide +kernel⟩, List.mem_of_getElem? (i := 700) (by decide +kernel), List.mem_of_getElem? (i := 1007) (by decide +kernel), List.mem_of_getElem? (i := 1008) (by decide +kernel)⟩
theorem lw_p46 : lw_okq (⟨"GradeGraphModel", "takes", "(I)Z"⟩, 28) := ⟨⟨by decide +kernel, by decide +kernel⟩, List.mem_of_getElem? (i := 700) (by decide +kernel), List.mem_of_getElem? (i := 1011) (by decide +kernel), List.mem_of_getElem? (i := 1012) (by decide +kernel)⟩
theorem lw_p47 : lw_okq (⟨"GradeGraphModel", "ends", "(I)Z"⟩, 28) := ⟨⟨by decide +kernel, by decide +kernel⟩, List.mem_of_getElem? (i := 700) (by decide +kernel), List.mem_of_getElem? (i := 1015) (by decide +kernel), List.mem_of_getElem? (i := 1016) (by decide +kernel)⟩
def lw_privs_3 : List (MethodName × Nat) := [(⟨"GradeGraphModel", "uses", "(I)V"⟩, 28), (⟨"GradeGraphModel", "isInRange", "(II)Z"⟩, 28), (⟨"GradeGraphModel", "makes", "(II)V"⟩, 28), (⟨"GradeGraphModel", "makesRoom", "(I)V"⟩, 28), (⟨"GradeGraphModel", "oldest", "()I"⟩, 28), (⟨"GradeGraphModel", "made", "(III)I"⟩, 28), (⟨"GradeGraphModel", "seen", "(IIII)I"⟩, 28), (⟨"GradeGraphModel", "blurred", "(IIII)I"⟩, 28), (⟨"GradeGraphModel", "sums", "(II)I"⟩, 28), (⟨"GradeGraphModel", "countOf", "(I)I"⟩, 28), (⟨"GradeGraphModel", "isText", "()Z"⟩, 28), (⟨"GradeGraphModel", "begins", "()Z"⟩, 28), (⟨"GradeGraphModel", "kindHere", "()I"⟩, 28), (⟨"GradeGraphModel", "here", "()I"⟩, 28), (⟨"GradeGraphModel", "takes", "(I)Z"⟩, 28), (⟨"GradeGraphModel", "ends", "(I)Z"⟩, 28)]
theorem lw_r3 : ∀ q ∈ lw_privs_3, lw_okq q := List.forall_mem_cons.mpr ⟨lw_p32, List.forall_mem_cons.mpr ⟨lw_p33, List.forall_mem_cons.mpr ⟨lw_p34, List.forall_mem_cons.mpr ⟨lw_p35, List.forall_mem_cons.mpr ⟨lw_p36, List.forall_mem_cons.mpr ⟨lw_p37, List.forall_mem_cons.mpr ⟨lw_p38, List.forall_mem_cons.mpr ⟨lw_p39, List.forall_mem_cons.mpr ⟨lw_p40, List.forall_mem_cons.mpr ⟨lw_p41, List.forall_mem_cons.mpr ⟨lw_p42, List.forall_mem_cons.mpr ⟨lw_p43, List.forall_mem_cons.mpr ⟨lw_p44, List.forall_mem_cons.mpr ⟨lw_p45, List.forall_mem_cons.mpr ⟨lw_p46, List.forall_mem_cons.mpr ⟨lw_p47, fun _ h => absurd h List.not_mem_nil⟩⟩⟩⟩⟩⟩⟩⟩⟩⟩⟩⟩⟩⟩⟩⟩
theorem lw_p48 : lw_okq (⟨"GradeGraphModel", "number", "(II)Z"⟩, 28) := ⟨⟨by decide +kernel, by decide +kernel⟩, List.mem_of_getElem? (i := 700) (by decide +kernel), List.mem_of_getElem? (i := 1019) (by decide +kernel), List.mem_of_getElem? (i := 1020) (by decide +kernel)⟩
theorem lw_p49 : lw_okq (⟨"GradeGraphModel", "isDigit", "()Z"⟩, 28) := ⟨⟨by decide +kernel, by decide +kernel⟩, List.mem_of_getElem? (i := 700) (by decide +kernel), List.mem_of_getElem? (i := 1023) (by decide +kernel), List.mem_of_getElem? (i := 1024) (by decide +kernel)⟩
theorem lw_p50 : lw_okq (⟨"GradeGraphModel", "tells", "(I)V"⟩, 28) := ⟨⟨by decide +kernel, by decide +kernel⟩, List.mem_of_getElem? (i := 700) (by decide +kernel), List.mem_of_getElem? (i := 1027) (by decide +kernel), List.mem_of_getElem? (i := 1028) (by decide +kernel)⟩
def lw_privs_4 : List (MethodName × Nat) := [(⟨"GradeGraphModel", "number", "(II)Z"⟩, 28), (⟨"GradeGraphModel", "isDigit", "()Z"⟩, 28), (⟨"GradeGraphModel", "tells", "(I)V"⟩, 28)]
theorem lw_r4 : ∀ q ∈ lw_privs_4, lw_okq q := List.forall_mem_cons.mpr ⟨lw_p48, List.forall_mem_cons.mpr ⟨lw_p49, List.forall_mem_cons.mpr ⟨lw_p50, fun _ h => absurd h List.not_mem_nil⟩⟩⟩
def lw_privs : List (MethodName × Nat) := lw_privs_1 ++ (lw_privs_2 ++ (lw_privs_3 ++ (lw_privs_4)))
def lw_tbl : List Cond := k2_sels lw_privs ++ tables_1
theorem lw_privs_ok : ∀ q ∈ lw_privs, lw_okq q := by
  show ∀ q ∈ lw_privs_1 ++ (lw_privs_2 ++ (lw_privs_3 ++ (lw_privs_4))), lw_okq q
  exact List.forall_mem_append.mpr ⟨lw_r1, List.forall_mem_append.mpr ⟨lw_r2, List.forall_mem_append.mpr ⟨lw_r3, lw_r4⟩⟩⟩
-- ===== end of PART A; then your names; then what follows =====
def RX0 : String := "GradeGraph$Cache"
def TX0 : u_T := fun k => match k with
  | 0 => ("GradeGraph$Cache", "pictures", "[LGradeGraph$Picture;", true)
  | 1 => ("GradeGraph$Cache", "uses", "I", false)
  | 2 => ("GradeGraph$Cache", "size", "I", false)
  | 3 => ("GradeGraph$Cache", "room", "I", false)
  | 4 => ("GradeGraph$Cache", "hits", "I", false)
  | 5 => ("GradeGraph$Cache", "misses", "I", false)
  | 6 => ("GradeGraph$Cache", "dropped", "I", false)
  | _ => ("GradeGraph$Cache", "voided", "I", false)
def tyX0 : Nat → FieldType := fun k => match k with
  | 0 => .array (.object "GradeGraph$Picture")
  | 1 => .int
  | 2 => .int
  | 3 => .int
  | 4 => .int
  | 5 => .int
  | 6 => .int
  | _ => .int
abbrev wsX00 : List Cond := u_ws RX0 TX0 8
theorem nmX0 : ∀ a, a < 8 → ∀ b, b < 8 → a ≠ b → (TX0 a).2.1 ≠ (TX0 b).2.1 := by decide +kernel
theorem tyX0_ok : ∀ k, k < 8 → parseFieldDescriptor (TX0 k).2.2.1 = some (tyX0 k) := by decide +kernel
abbrev cX0_init : ByteArray := prog_2_method_1_code
def yX0_init : MethodName := ⟨RX0, "<init>", "()V"⟩
abbrev cX0_empty : ByteArray := prog_2_method_2_code
def yX0_empty : MethodName := ⟨RX0, "empty", "()V"⟩
abbrev cX0_find : ByteArray := prog_2_method_3_code
def yX0_find : MethodName := ⟨RX0, "find", "(II)LGradeGraph$Picture;"⟩
abbrev cX0_hit : ByteArray := prog_2_method_4_code
def yX0_hit : MethodName := ⟨RX0, "hit", "(LGradeGraph$Picture;)V"⟩
abbrev cX0_admit : ByteArray := prog_2_method_5_code
def yX0_admit : MethodName := ⟨RX0, "admit", "(II)LGradeGraph$Picture;"⟩
abbrev cX0_changeRoom : ByteArray := prog_2_method_6_code
def yX0_changeRoom : MethodName := ⟨RX0, "changeRoom", "(I)V"⟩
abbrev cX0_makeVoid : ByteArray := prog_2_method_7_code
def yX0_makeVoid : MethodName := ⟨RX0, "makeVoid", "(III)I"⟩
abbrev cX0_makeVoidInOne : ByteArray := prog_2_method_8_code
def yX0_makeVoidInOne : MethodName := ⟨RX0, "makeVoidInOne", "(IIIII)I"⟩
abbrev cX0_touch : ByteArray := prog_2_method_9_code
def yX0_touch : MethodName := ⟨RX0, "touch", "(LGradeGraph$Picture;)V"⟩
abbrev cX0_dropOldest : ByteArray := prog_2_method_10_code
def yX0_dropOldest : MethodName := ⟨RX0, "dropOldest", "()V"⟩
abbrev cX0_remove : ByteArray := prog_2_method_11_code
def yX0_remove : MethodName := ⟨RX0, "remove", "(I)V"⟩
def RX1 : String := "GradeGraph$Graph"
def TX1 : u_T := fun k => match k with
  | 0 => ("GradeGraph$Graph", "nodes", "[LGradeGraph$Node;", true)
  | 1 => ("GradeGraph$Graph", "size", "I", false)
  | 2 => ("GradeGraph$Graph", "order", "[I", true)
  | 3 => ("GradeGraph$Graph", "places", "[I", true)
  | _ => ("GradeGraph$Graph", "depths", "[I", true)
def tyX1 : Nat → FieldType := fun k => match k with
  | 0 => .array (.object "GradeGraph$Node")
  | 1 => .int
  | 2 => .array .int
  | 3 => .array .int
  | _ => .array .int
abbrev wsX10 : List Cond := u_ws RX1 TX1 5
theorem nmX1 : ∀ a, a < 5 → ∀ b, b < 5 → a ≠ b → (TX1 a).2.1 ≠ (TX1 b).2.1 := by decide +kernel
theorem tyX1_ok : ∀ k, k < 5 → parseFieldDescriptor (TX1 k).2.2.1 = some (tyX1 k) := by decide +kernel
abbrev cX1_init : ByteArray := prog_3_method_1_code
def yX1_init : MethodName := ⟨RX1, "<init>", "()V"⟩
abbrev cX1_has : ByteArray := prog_3_method_2_code
def yX1_has : MethodName := ⟨RX1, "has", "(I)Z"⟩
abbrev cX1_hasInput : ByteArray := prog_3_method_3_code
def yX1_hasInput : MethodName := ⟨RX1, "hasInput", "(II)Z"⟩
abbrev cX1_hasParameter : ByteArray := prog_3_method_4_code
def yX1_hasParameter : MethodName := ⟨RX1, "hasParameter", "(II)Z"⟩
abbrev cX1_removeAll : ByteArray := prog_3_method_5_code
def yX1_removeAll : MethodName := ⟨RX1, "removeAll", "()V"⟩
abbrev cX1_add : ByteArray := prog_3_method_6_code
def yX1_add : MethodName := ⟨RX1, "add", "(I)I"⟩
abbrev cX1_link : ByteArray := prog_3_method_7_code
def yX1_link : MethodName := ⟨RX1, "link", "(III)V"⟩
abbrev cX1_copyFrom : ByteArray := prog_3_method_8_code
def yX1_copyFrom : MethodName := ⟨RX1, "copyFrom", "(LGradeGraph$Graph;)V"⟩
abbrev cX1_addAll : ByteArray := prog_3_method_9_code
def yX1_addAll : MethodName := ⟨RX1, "addAll", "([LGradeGraph$Node;I)V"⟩
abbrev cX1_dependents : ByteArray := prog_3_method_10_code
def yX1_dependents : MethodName := ⟨RX1, "dependents", "(I)I"⟩
abbrev cX1_arrange : ByteArray := prog_3_method_11_code
def yX1_arrange : MethodName := ⟨RX1, "arrange", "()V"⟩
abbrev cX1_firstReady : ByteArray := prog_3_method_12_code
def yX1_firstReady : MethodName := ⟨RX1, "firstReady", "(I)I"⟩
abbrev cX1_depthBehindInputs : ByteArray := prog_3_method_13_code
def yX1_depthBehindInputs : MethodName := ⟨RX1, "depthBehindInputs", "(LGradeGraph$Node;)I"⟩
def RX2 : String := "GradeGraph$Kinds"
def TX2 : u_T := fun k => match k with
  | _ => ("", "", "", false)
def tyX2 : Nat → FieldType := fun k => match k with
  | _ => .int
abbrev wsX20 : List Cond := u_ws RX2 TX2 0
theorem nmX2 : ∀ a, a < 0 → ∀ b, b < 0 → a ≠ b → (TX2 a).2.1 ≠ (TX2 b).2.1 := by decide +kernel
theorem tyX2_ok : ∀ k, k < 0 → parseFieldDescriptor (TX2 k).2.2.1 = some (tyX2 k) := by decide +kernel
abbrev cX2_inputs : ByteArray := prog_4_method_2_code
def yX2_inputs : MethodName := ⟨RX2, "inputs", "(I)I"⟩
abbrev cX2_parameters : ByteArray := prog_4_method_3_code
def yX2_parameters : MethodName := ⟨RX2, "parameters", "(I)I"⟩
abbrev cX2_numbers : ByteArray := prog_4_method_4_code
def yX2_numbers : MethodName := ⟨RX2, "numbers", "(I)I"⟩
abbrev cX2_lowest : ByteArray := prog_4_method_5_code
def yX2_lowest : MethodName := ⟨RX2, "lowest", "(II)I"⟩
abbrev cX2_highest : ByteArray := prog_4_method_6_code
def yX2_highest : MethodName := ⟨RX2, "highest", "(II)I"⟩
abbrev cX2_atFirst : ByteArray := prog_4_method_7_code
def yX2_atFirst : MethodName := ⟨RX2, "atFirst", "(II)I"⟩
abbrev cX2_entry : ByteArray := prog_4_method_8_code
def yX2_entry : MethodName := ⟨RX2, "entry", "([II)I"⟩
def RX3 : String := "GradeGraph$Node"
def TX3 : u_T := fun k => match k with
  | 0 => ("GradeGraph$Node", "kind", "I", false)
  | 1 => ("GradeGraph$Node", "first", "I", false)
  | 2 => ("GradeGraph$Node", "last", "I", false)
  | 3 => ("GradeGraph$Node", "inputs", "[I", true)
  | _ => ("GradeGraph$Node", "parameters", "[I", true)
def tyX3 : Nat → FieldType := fun k => match k with
  | 0 => .int
  | 1 => .int
  | 2 => .int
  | 3 => .array .int
  | _ => .array .int
abbrev wsX30 : List Cond := u_ws RX3 TX3 5
theorem nmX3 : ∀ a, a < 5 → ∀ b, b < 5 → a ≠ b → (TX3 a).2.1 ≠ (TX3 b).2.1 := by decide +kernel
theorem tyX3_ok : ∀ k, k < 5 → parseFieldDescriptor (TX3 k).2.2.1 = some (tyX3 k) := by decide +kernel
abbrev cX3_init : ByteArray := prog_5_method_1_code
def yX3_init : MethodName := ⟨RX3, "<init>", "()V"⟩
abbrev cX3_reset : ByteArray := prog_5_method_2_code
def yX3_reset : MethodName := ⟨RX3, "reset", "(I)V"⟩
abbrev cX3_copyFrom : ByteArray := prog_5_method_3_code
def yX3_copyFrom : MethodName := ⟨RX3, "copyFrom", "(LGradeGraph$Node;)V"⟩
abbrev cX3_inputSet : ByteArray := prog_5_method_4_code
def yX3_inputSet : MethodName := ⟨RX3, "inputSet", "()I"⟩
def RX4 : String := "GradeGraph$Painter"
def TX4 : u_T := fun k => match k with
  | _ => ("", "", "", false)
def tyX4 : Nat → FieldType := fun k => match k with
  | _ => .int
abbrev wsX40 : List Cond := u_ws RX4 TX4 0
theorem nmX4 : ∀ a, a < 0 → ∀ b, b < 0 → a ≠ b → (TX4 a).2.1 ≠ (TX4 b).2.1 := by decide +kernel
theorem tyX4_ok : ∀ k, k < 0 → parseFieldDescriptor (TX4 k).2.2.1 = some (tyX4 k) := by decide +kernel
abbrev cX4_paint : ByteArray := prog_6_method_2_code
def yX4_paint : MethodName := ⟨RX4, "paint", "(LGradeGraph$Node;I[I[I[I[I)V"⟩
abbrev cX4_paintSource : ByteArray := prog_6_method_3_code
def yX4_paintSource : MethodName := ⟨RX4, "paintSource", "(II[I)V"⟩
abbrev cX4_paintAmounts : ByteArray := prog_6_method_4_code
def yX4_paintAmounts : MethodName := ⟨RX4, "paintAmounts", "(LGradeGraph$Node;[I[I)V"⟩
abbrev cX4_paintInverse : ByteArray := prog_6_method_5_code
def yX4_paintInverse : MethodName := ⟨RX4, "paintInverse", "([I[I)V"⟩
abbrev cX4_paintBlur : ByteArray := prog_6_method_6_code
def yX4_paintBlur : MethodName := ⟨RX4, "paintBlur", "(I[I[I)V"⟩
abbrev cX4_paintKey : ByteArray := prog_6_method_7_code
def yX4_paintKey : MethodName := ⟨RX4, "paintKey", "([I[I[I)V"⟩
abbrev cX4_mask : ByteArray := prog_6_method_8_code
def yX4_mask : MethodName := ⟨RX4, "mask", "(IIII)I"⟩
abbrev cX4_paintBlend : ByteArray := prog_6_method_9_code
def yX4_paintBlend : MethodName := ⟨RX4, "paintBlend", "([I[I[I[I)V"⟩
def RX5 : String := "GradeGraph$Picture"
def TX5 : u_T := fun k => match k with
  | 0 => ("GradeGraph$Picture", "node", "I", false)
  | 1 => ("GradeGraph$Picture", "frame", "I", false)
  | 2 => ("GradeGraph$Picture", "lastUse", "I", false)
  | _ => ("GradeGraph$Picture", "values", "[I", true)
def tyX5 : Nat → FieldType := fun k => match k with
  | 0 => .int
  | 1 => .int
  | 2 => .int
  | _ => .array .int
abbrev wsX50 : List Cond := u_ws RX5 TX5 4
theorem nmX5 : ∀ a, a < 4 → ∀ b, b < 4 → a ≠ b → (TX5 a).2.1 ≠ (TX5 b).2.1 := by decide +kernel
theorem tyX5_ok : ∀ k, k < 4 → parseFieldDescriptor (TX5 k).2.2.1 = some (tyX5 k) := by decide +kernel
abbrev cX5_init : ByteArray := prog_7_method_1_code
def yX5_init : MethodName := ⟨RX5, "<init>", "()V"⟩
def RX6 : String := "GradeGraph$Reader"
def TX6 : u_T := fun k => match k with
  | 0 => ("GradeGraph$Reader", "text", "LGradeGraph$Text;", true)
  | 1 => ("GradeGraph$Reader", "numbers", "[I", true)
  | 2 => ("GradeGraph$Reader", "drafts", "[LGradeGraph$Node;", true)
  | 3 => ("GradeGraph$Reader", "found", "I", false)
  | 4 => ("GradeGraph$Reader", "known", "I", false)
  | 5 => ("GradeGraph$Reader", "position", "I", false)
  | _ => ("GradeGraph$Reader", "faulty", "Z", false)
def tyX6 : Nat → FieldType := fun k => match k with
  | 0 => .object "GradeGraph$Text"
  | 1 => .array .int
  | 2 => .array (.object "GradeGraph$Node")
  | 3 => .int
  | 4 => .int
  | 5 => .int
  | _ => .boolean
abbrev wsX60 : List Cond := u_ws RX6 TX6 7
theorem nmX6 : ∀ a, a < 7 → ∀ b, b < 7 → a ≠ b → (TX6 a).2.1 ≠ (TX6 b).2.1 := by decide +kernel
theorem tyX6_ok : ∀ k, k < 7 → parseFieldDescriptor (TX6 k).2.2.1 = some (tyX6 k) := by decide +kernel
abbrev cX6_init : ByteArray := prog_8_method_1_code
def yX6_init : MethodName := ⟨RX6, "<init>", "()V"⟩
abbrev cX6_read : ByteArray := prog_8_method_2_code
def yX6_read : MethodName := ⟨RX6, "read", "(I)I"⟩
abbrev cX6_expression : ByteArray := prog_8_method_3_code
def yX6_expression : MethodName := ⟨RX6, "expression", "(I)I"⟩
abbrev cX6_nextExpression : ByteArray := prog_8_method_4_code
def yX6_nextExpression : MethodName := ⟨RX6, "nextExpression", "(I)I"⟩
abbrev cX6_kindHere : ByteArray := prog_8_method_5_code
def yX6_kindHere : MethodName := ⟨RX6, "kindHere", "()I"⟩
abbrev cX6_newNode : ByteArray := prog_8_method_6_code
def yX6_newNode : MethodName := ⟨RX6, "newNode", "(II)I"⟩
abbrev cX6_fill : ByteArray := prog_8_method_7_code
def yX6_fill : MethodName := ⟨RX6, "fill", "(LGradeGraph$Node;IIII)V"⟩
abbrev cX6_readNumber : ByteArray := prog_8_method_8_code
def yX6_readNumber : MethodName := ⟨RX6, "readNumber", "(II)I"⟩
abbrev cX6_readDigits : ByteArray := prog_8_method_9_code
def yX6_readDigits : MethodName := ⟨RX6, "readDigits", "()I"⟩
abbrev cX6_expect : ByteArray := prog_8_method_10_code
def yX6_expect : MethodName := ⟨RX6, "expect", "(I)V"⟩
def RX7 : String := "GradeGraph$Scopes"
def TX7 : u_T := fun k => match k with
  | _ => ("", "", "", false)
def tyX7 : Nat → FieldType := fun k => match k with
  | _ => .int
abbrev wsX70 : List Cond := u_ws RX7 TX7 0
theorem nmX7 : ∀ a, a < 0 → ∀ b, b < 0 → a ≠ b → (TX7 a).2.1 ≠ (TX7 b).2.1 := by decide +kernel
theorem tyX7_ok : ∀ k, k < 0 → parseFieldDescriptor (TX7 k).2.2.1 = some (tyX7 k) := by decide +kernel
abbrev cX7_inPart : ByteArray := prog_9_method_2_code
def yX7_inPart : MethodName := ⟨RX7, "inPart", "([III)I"⟩
abbrev cX7_least : ByteArray := prog_9_method_3_code
def yX7_least : MethodName := ⟨RX7, "least", "([II)I"⟩
abbrev cX7_greatest : ByteArray := prog_9_method_4_code
def yX7_greatest : MethodName := ⟨RX7, "greatest", "([II)I"⟩
abbrev cX7_total : ByteArray := prog_9_method_5_code
def yX7_total : MethodName := ⟨RX7, "total", "([II)I"⟩
abbrev cX7_different : ByteArray := prog_9_method_6_code
def yX7_different : MethodName := ⟨RX7, "different", "([II)I"⟩
abbrev cX7_standsBefore : ByteArray := prog_9_method_7_code
def yX7_standsBefore : MethodName := ⟨RX7, "standsBefore", "([III)Z"⟩
abbrev cX7_greatestDifference : ByteArray := prog_9_method_8_code
def yX7_greatestDifference : MethodName := ⟨RX7, "greatestDifference", "([I[I)I"⟩
def RX8 : String := "GradeGraph$Text"
def TX8 : u_T := fun k => match k with
  | 0 => ("GradeGraph$Text", "bytes", "[B", true)
  | _ => ("GradeGraph$Text", "length", "I", false)
def tyX8 : Nat → FieldType := fun k => match k with
  | 0 => .array .byte
  | _ => .int
abbrev wsX80 : List Cond := u_ws RX8 TX8 2
theorem nmX8 : ∀ a, a < 2 → ∀ b, b < 2 → a ≠ b → (TX8 a).2.1 ≠ (TX8 b).2.1 := by decide +kernel
theorem tyX8_ok : ∀ k, k < 2 → parseFieldDescriptor (TX8 k).2.2.1 = some (tyX8 k) := by decide +kernel
abbrev cX8_init : ByteArray := prog_10_method_1_code
def yX8_init : MethodName := ⟨RX8, "<init>", "()V"⟩
abbrev cX8_put : ByteArray := prog_10_method_2_code
def yX8_put : MethodName := ⟨RX8, "put", "(I)I"⟩
abbrev cX8_empty : ByteArray := prog_10_method_3_code
def yX8_empty : MethodName := ⟨RX8, "empty", "()V"⟩
abbrev cX8_at : ByteArray := prog_10_method_4_code
def yX8_at : MethodName := ⟨RX8, "at", "(I)I"⟩
abbrev cX8_openAhead : ByteArray := prog_10_method_5_code
def yX8_openAhead : MethodName := ⟨RX8, "openAhead", "(I)I"⟩
def RX9 : String := "GradeGraph"
def TX9 : u_T := fun k => match k with
  | 0 => ("GradeGraph", "graph", "LGradeGraph$Graph;", true)
  | 1 => ("GradeGraph", "cache", "LGradeGraph$Cache;", true)
  | 2 => ("GradeGraph", "reader", "LGradeGraph$Reader;", true)
  | 3 => ("GradeGraph", "slots", "[LGradeGraph$Graph;", true)
  | 4 => ("GradeGraph", "saved", "[Z", true)
  | _ => ("GradeGraph", "black", "[I", true)
def tyX9 : Nat → FieldType := fun k => match k with
  | 0 => .object "GradeGraph$Graph"
  | 1 => .object "GradeGraph$Cache"
  | 2 => .object "GradeGraph$Reader"
  | 3 => .array (.object "GradeGraph$Graph")
  | 4 => .array .boolean
  | _ => .array .int
abbrev wsX90 : List Cond := u_ws RX9 TX9 6
theorem nmX9 : ∀ a, a < 6 → ∀ b, b < 6 → a ≠ b → (TX9 a).2.1 ≠ (TX9 b).2.1 := by decide +kernel
theorem tyX9_ok : ∀ k, k < 6 → parseFieldDescriptor (TX9 k).2.2.1 = some (tyX9 k) := by decide +kernel
abbrev cX9_init : ByteArray := prog_1_method_1_code
def yX9_init : MethodName := ⟨RX9, "<init>", "()V"⟩
abbrev cX9_clear : ByteArray := prog_1_method_2_code
def yX9_clear : MethodName := ⟨RX9, "clear", "()I"⟩
abbrev cX9_addNode : ByteArray := prog_1_method_3_code
def yX9_addNode : MethodName := ⟨RX9, "addNode", "(I)I"⟩
abbrev cX9_connect : ByteArray := prog_1_method_4_code
def yX9_connect : MethodName := ⟨RX9, "connect", "(III)I"⟩
abbrev cX9_set : ByteArray := prog_1_method_5_code
def yX9_set : MethodName := ⟨RX9, "set", "(III)I"⟩
abbrev cX9_setRange : ByteArray := prog_1_method_6_code
def yX9_setRange : MethodName := ⟨RX9, "setRange", "(III)I"⟩
abbrev cX9_nodes : ByteArray := prog_1_method_7_code
def yX9_nodes : MethodName := ⟨RX9, "nodes", "()I"⟩
abbrev cX9_node : ByteArray := prog_1_method_8_code
def yX9_node : MethodName := ⟨RX9, "node", "(II)I"⟩
abbrev cX9_input : ByteArray := prog_1_method_9_code
def yX9_input : MethodName := ⟨RX9, "input", "(II)I"⟩
abbrev cX9_parameter : ByteArray := prog_1_method_10_code
def yX9_parameter : MethodName := ⟨RX9, "parameter", "(II)I"⟩
abbrev cX9_value : ByteArray := prog_1_method_11_code
def yX9_value : MethodName := ⟨RX9, "value", "(IIIII)I"⟩
abbrev cX9_scope : ByteArray := prog_1_method_12_code
def yX9_scope : MethodName := ⟨RX9, "scope", "(IIII)I"⟩
abbrev cX9_sum : ByteArray := prog_1_method_13_code
def yX9_sum : MethodName := ⟨RX9, "sum", "(IIII)I"⟩
abbrev cX9_compare : ByteArray := prog_1_method_14_code
def yX9_compare : MethodName := ⟨RX9, "compare", "(III)I"⟩
abbrev cX9_setRoom : ByteArray := prog_1_method_15_code
def yX9_setRoom : MethodName := ⟨RX9, "setRoom", "(I)I"⟩
abbrev cX9_isCached : ByteArray := prog_1_method_16_code
def yX9_isCached : MethodName := ⟨RX9, "isCached", "(II)I"⟩
abbrev cX9_count : ByteArray := prog_1_method_17_code
def yX9_count : MethodName := ⟨RX9, "count", "(I)I"⟩
abbrev cX9_append : ByteArray := prog_1_method_18_code
def yX9_append : MethodName := ⟨RX9, "append", "(I)I"⟩
abbrev cX9_clearText : ByteArray := prog_1_method_19_code
def yX9_clearText : MethodName := ⟨RX9, "clearText", "()I"⟩
abbrev cX9_faultPosition : ByteArray := prog_1_method_20_code
def yX9_faultPosition : MethodName := ⟨RX9, "faultPosition", "()I"⟩
abbrev cX9_faultDepth : ByteArray := prog_1_method_21_code
def yX9_faultDepth : MethodName := ⟨RX9, "faultDepth", "()I"⟩
abbrev cX9_build : ByteArray := prog_1_method_22_code
def yX9_build : MethodName := ⟨RX9, "build", "()I"⟩
abbrev cX9_save : ByteArray := prog_1_method_23_code
def yX9_save : MethodName := ⟨RX9, "save", "(I)I"⟩
abbrev cX9_restore : ByteArray := prog_1_method_24_code
def yX9_restore : MethodName := ⟨RX9, "restore", "(I)I"⟩
abbrev cX9_checksum : ByteArray := prog_1_method_25_code
def yX9_checksum : MethodName := ⟨RX9, "checksum", "()J"⟩
abbrev cX9_mixNode : ByteArray := prog_1_method_26_code
def yX9_mixNode : MethodName := ⟨RX9, "mixNode", "(JI)J"⟩
abbrev cX9_mix : ByteArray := prog_1_method_27_code
def yX9_mix : MethodName := ⟨RX9, "mix", "(JI)J"⟩
abbrev cX9_ask : ByteArray := prog_1_method_28_code
def yX9_ask : MethodName := ⟨RX9, "ask", "(III)[I"⟩
abbrev cX9_isFrame : ByteArray := prog_1_method_29_code
def yX9_isFrame : MethodName := ⟨RX9, "isFrame", "(I)Z"⟩
abbrev cX9_isChannel : ByteArray := prog_1_method_30_code
def yX9_isChannel : MethodName := ⟨RX9, "isChannel", "(I)Z"⟩
abbrev cX9_isIn : ByteArray := prog_1_method_31_code
def yX9_isIn : MethodName := ⟨RX9, "isIn", "(III)Z"⟩
abbrev cX9_contains : ByteArray := prog_1_method_32_code
def yX9_contains : MethodName := ⟨RX9, "contains", "(II)Z"⟩
def RX10 : String := "GradeGraphModel"
def TX10 : u_T := fun k => match k with
  | 0 => ("GradeGraphModel", "v", "[I", true)
  | 1 => ("GradeGraphModel", "kept", "[I", true)
  | 2 => ("GradeGraphModel", "isKept", "[Z", true)
  | 3 => ("GradeGraphModel", "room", "I", false)
  | 4 => ("GradeGraphModel", "cached", "I", false)
  | 5 => ("GradeGraphModel", "cacheNode", "[I", true)
  | 6 => ("GradeGraphModel", "cacheFrame", "[I", true)
  | 7 => ("GradeGraphModel", "cacheUse", "[I", true)
  | 8 => ("GradeGraphModel", "pictures", "[I", true)
  | 9 => ("GradeGraphModel", "uses", "I", false)
  | 10 => ("GradeGraphModel", "counts", "[I", true)
  | 11 => ("GradeGraphModel", "text", "[I", true)
  | 12 => ("GradeGraphModel", "length", "I", false)
  | 13 => ("GradeGraphModel", "inputMany", "[I", true)
  | 14 => ("GradeGraphModel", "parameterMany", "[I", true)
  | 15 => ("GradeGraphModel", "depths", "[I", true)
  | 16 => ("GradeGraphModel", "waits", "[I", true)
  | 17 => ("GradeGraphModel", "asked", "[I", true)
  | 18 => ("GradeGraphModel", "waiting", "I", false)
  | 19 => ("GradeGraphModel", "place", "I", false)
  | 20 => ("GradeGraphModel", "depth", "I", false)
  | 21 => ("GradeGraphModel", "number", "I", false)
  | 22 => ("GradeGraphModel", "open", "[I", true)
  | 23 => ("GradeGraphModel", "openMany", "[I", true)
  | 24 => ("GradeGraphModel", "told", "[I", true)
  | 25 => ("GradeGraphModel", "tellings", "I", false)
  | 26 => ("GradeGraphModel", "done", "[I", true)
  | _ => ("GradeGraphModel", "dones", "I", false)
def tyX10 : Nat → FieldType := fun k => match k with
  | 0 => .array .int
  | 1 => .array .int
  | 2 => .array .boolean
  | 3 => .int
  | 4 => .int
  | 5 => .array .int
  | 6 => .array .int
  | 7 => .array .int
  | 8 => .array .int
  | 9 => .int
  | 10 => .array .int
  | 11 => .array .int
  | 12 => .int
  | 13 => .array .int
  | 14 => .array .int
  | 15 => .array .int
  | 16 => .array .int
  | 17 => .array .int
  | 18 => .int
  | 19 => .int
  | 20 => .int
  | 21 => .int
  | 22 => .array .int
  | 23 => .array .int
  | 24 => .array .int
  | 25 => .int
  | 26 => .array .int
  | _ => .int
abbrev wsX100 : List Cond := u_ws RX10 TX10 28
theorem nmX10 : ∀ a, a < 28 → ∀ b, b < 28 → a ≠ b → (TX10 a).2.1 ≠ (TX10 b).2.1 := by decide +kernel
theorem tyX10_ok : ∀ k, k < 28 → parseFieldDescriptor (TX10 k).2.2.1 = some (tyX10 k) := by decide +kernel
abbrev cX10_init : ByteArray := prog_12_method_1_code
def yX10_init : MethodName := ⟨RX10, "<init>", "()V"⟩
abbrev cX10_in : ByteArray := prog_12_method_3_code
def yX10_in : MethodName := ⟨RX10, "in", "(III)Z"⟩
abbrev cX10_at : ByteArray := prog_12_method_4_code
def yX10_at : MethodName := ⟨RX10, "at", "(II)I"⟩
abbrev cX10_isNode : ByteArray := prog_12_method_5_code
def yX10_isNode : MethodName := ⟨RX10, "isNode", "(I)Z"⟩
abbrev cX10_kind : ByteArray := prog_12_method_6_code
def yX10_kind : MethodName := ⟨RX10, "kind", "(I)I"⟩
abbrev cX10_isInput : ByteArray := prog_12_method_7_code
def yX10_isInput : MethodName := ⟨RX10, "isInput", "(II)Z"⟩
abbrev cX10_isParameter : ByteArray := prog_12_method_8_code
def yX10_isParameter : MethodName := ⟨RX10, "isParameter", "(II)Z"⟩
abbrev cX10_first : ByteArray := prog_12_method_9_code
def yX10_first : MethodName := ⟨RX10, "first", "(II)I"⟩
abbrev cX10_low : ByteArray := prog_12_method_10_code
def yX10_low : MethodName := ⟨RX10, "low", "(I)I"⟩
abbrev cX10_high : ByteArray := prog_12_method_11_code
def yX10_high : MethodName := ⟨RX10, "high", "(II)I"⟩
abbrev cX10_clear : ByteArray := prog_12_method_12_code
def yX10_clear : MethodName := ⟨RX10, "clear", "()I"⟩
abbrev cX10_adds : ByteArray := prog_12_method_13_code
def yX10_adds : MethodName := ⟨RX10, "adds", "(I)I"⟩
abbrev cX10_addNode : ByteArray := prog_12_method_14_code
def yX10_addNode : MethodName := ⟨RX10, "addNode", "(I)I"⟩
abbrev cX10_dependents : ByteArray := prog_12_method_15_code
def yX10_dependents : MethodName := ⟨RX10, "dependents", "(I)I"⟩
abbrev cX10_drops : ByteArray := prog_12_method_16_code
def yX10_drops : MethodName := ⟨RX10, "drops", "(I)V"⟩
abbrev cX10_voids : ByteArray := prog_12_method_17_code
def yX10_voids : MethodName := ⟨RX10, "voids", "(IIIII)I"⟩
abbrev cX10_connect : ByteArray := prog_12_method_18_code
def yX10_connect : MethodName := ⟨RX10, "connect", "(III)I"⟩
abbrev cX10_set : ByteArray := prog_12_method_19_code
def yX10_set : MethodName := ⟨RX10, "set", "(III)I"⟩
abbrev cX10_setRange : ByteArray := prog_12_method_20_code
def yX10_setRange : MethodName := ⟨RX10, "setRange", "(III)I"⟩
abbrev cX10_nodes : ByteArray := prog_12_method_21_code
def yX10_nodes : MethodName := ⟨RX10, "nodes", "()I"⟩
abbrev cX10_size : ByteArray := prog_12_method_22_code
def yX10_size : MethodName := ⟨RX10, "size", "(I)I"⟩
abbrev cX10_placeOf : ByteArray := prog_12_method_23_code
def yX10_placeOf : MethodName := ⟨RX10, "placeOf", "(I)I"⟩
abbrev cX10_isReady : ByteArray := prog_12_method_24_code
def yX10_isReady : MethodName := ⟨RX10, "isReady", "(II)Z"⟩
abbrev cX10_depthOf : ByteArray := prog_12_method_25_code
def yX10_depthOf : MethodName := ⟨RX10, "depthOf", "(I)I"⟩
abbrev cX10_nodeTells : ByteArray := prog_12_method_26_code
def yX10_nodeTells : MethodName := ⟨RX10, "nodeTells", "(II)I"⟩
abbrev cX10_node : ByteArray := prog_12_method_27_code
def yX10_node : MethodName := ⟨RX10, "node", "(II)I"⟩
abbrev cX10_input : ByteArray := prog_12_method_28_code
def yX10_input : MethodName := ⟨RX10, "input", "(II)I"⟩
abbrev cX10_parameter : ByteArray := prog_12_method_29_code
def yX10_parameter : MethodName := ⟨RX10, "parameter", "(II)I"⟩
abbrev cX10_find : ByteArray := prog_12_method_30_code
def yX10_find : MethodName := ⟨RX10, "find", "(II)I"⟩
abbrev cX10_uses : ByteArray := prog_12_method_31_code
def yX10_uses : MethodName := ⟨RX10, "uses", "(I)V"⟩
abbrev cX10_oldest : ByteArray := prog_12_method_32_code
def yX10_oldest : MethodName := ⟨RX10, "oldest", "()I"⟩
abbrev cX10_makesRoom : ByteArray := prog_12_method_33_code
def yX10_makesRoom : MethodName := ⟨RX10, "makesRoom", "(I)V"⟩
abbrev cX10_isInRange : ByteArray := prog_12_method_34_code
def yX10_isInRange : MethodName := ⟨RX10, "isInRange", "(II)Z"⟩
abbrev cX10_asks : ByteArray := prog_12_method_35_code
def yX10_asks : MethodName := ⟨RX10, "asks", "(II)V"⟩
abbrev cX10_picture : ByteArray := prog_12_method_36_code
def yX10_picture : MethodName := ⟨RX10, "picture", "(II)I"⟩
abbrev cX10_makes : ByteArray := prog_12_method_37_code
def yX10_makes : MethodName := ⟨RX10, "makes", "(II)V"⟩
abbrev cX10_seen : ByteArray := prog_12_method_38_code
def yX10_seen : MethodName := ⟨RX10, "seen", "(IIII)I"⟩
abbrev cX10_limit : ByteArray := prog_12_method_39_code
def yX10_limit : MethodName := ⟨RX10, "limit", "(I)I"⟩
abbrev cX10_made : ByteArray := prog_12_method_40_code
def yX10_made : MethodName := ⟨RX10, "made", "(III)I"⟩
abbrev cX10_blurred : ByteArray := prog_12_method_41_code
def yX10_blurred : MethodName := ⟨RX10, "blurred", "(IIII)I"⟩
abbrev cX10_keyed : ByteArray := prog_12_method_42_code
def yX10_keyed : MethodName := ⟨RX10, "keyed", "(IIII)I"⟩
abbrev cX10_isPicture : ByteArray := prog_12_method_43_code
def yX10_isPicture : MethodName := ⟨RX10, "isPicture", "(II)Z"⟩
abbrev cX10_value : ByteArray := prog_12_method_44_code
def yX10_value : MethodName := ⟨RX10, "value", "(IIIII)I"⟩
abbrev cX10_scope : ByteArray := prog_12_method_45_code
def yX10_scope : MethodName := ⟨RX10, "scope", "(IIII)I"⟩
abbrev cX10_sums : ByteArray := prog_12_method_46_code
def yX10_sums : MethodName := ⟨RX10, "sums", "(II)I"⟩
abbrev cX10_sum : ByteArray := prog_12_method_47_code
def yX10_sum : MethodName := ⟨RX10, "sum", "(IIII)I"⟩
abbrev cX10_compare : ByteArray := prog_12_method_48_code
def yX10_compare : MethodName := ⟨RX10, "compare", "(III)I"⟩
abbrev cX10_setRoom : ByteArray := prog_12_method_49_code
def yX10_setRoom : MethodName := ⟨RX10, "setRoom", "(I)I"⟩
abbrev cX10_isCached : ByteArray := prog_12_method_50_code
def yX10_isCached : MethodName := ⟨RX10, "isCached", "(II)I"⟩
abbrev cX10_countOf : ByteArray := prog_12_method_51_code
def yX10_countOf : MethodName := ⟨RX10, "countOf", "(I)I"⟩
abbrev cX10_count : ByteArray := prog_12_method_52_code
def yX10_count : MethodName := ⟨RX10, "count", "(I)I"⟩
abbrev cX10_append : ByteArray := prog_12_method_53_code
def yX10_append : MethodName := ⟨RX10, "append", "(I)I"⟩
abbrev cX10_clearText : ByteArray := prog_12_method_54_code
def yX10_clearText : MethodName := ⟨RX10, "clearText", "()I"⟩
abbrev cX10_here : ByteArray := prog_12_method_55_code
def yX10_here : MethodName := ⟨RX10, "here", "()I"⟩
abbrev cX10_takes : ByteArray := prog_12_method_56_code
def yX10_takes : MethodName := ⟨RX10, "takes", "(I)Z"⟩
abbrev cX10_isDigit : ByteArray := prog_12_method_57_code
def yX10_isDigit : MethodName := ⟨RX10, "isDigit", "()Z"⟩
abbrev cX10_number : ByteArray := prog_12_method_58_code
def yX10_number : MethodName := ⟨RX10, "number", "(II)Z"⟩
abbrev cX10_kindHere : ByteArray := prog_12_method_59_code
def yX10_kindHere : MethodName := ⟨RX10, "kindHere", "()I"⟩
abbrev cX10_tells : ByteArray := prog_12_method_60_code
def yX10_tells : MethodName := ⟨RX10, "tells", "(I)V"⟩
abbrev cX10_ends : ByteArray := prog_12_method_61_code
def yX10_ends : MethodName := ⟨RX10, "ends", "(I)Z"⟩
abbrev cX10_begins : ByteArray := prog_12_method_62_code
def yX10_begins : MethodName := ⟨RX10, "begins", "()Z"⟩
abbrev cX10_isText : ByteArray := prog_12_method_63_code
def yX10_isText : MethodName := ⟨RX10, "isText", "()Z"⟩
abbrev cX10_faultPosition : ByteArray := prog_12_method_64_code
def yX10_faultPosition : MethodName := ⟨RX10, "faultPosition", "()I"⟩
abbrev cX10_faultDepth : ByteArray := prog_12_method_65_code
def yX10_faultDepth : MethodName := ⟨RX10, "faultDepth", "()I"⟩
abbrev cX10_build : ByteArray := prog_12_method_66_code
def yX10_build : MethodName := ⟨RX10, "build", "()I"⟩
abbrev cX10_save : ByteArray := prog_12_method_67_code
def yX10_save : MethodName := ⟨RX10, "save", "(I)I"⟩
abbrev cX10_restore : ByteArray := prog_12_method_68_code
def yX10_restore : MethodName := ⟨RX10, "restore", "(I)I"⟩
abbrev cX10_more : ByteArray := prog_12_method_69_code
def yX10_more : MethodName := ⟨RX10, "more", "(JI)J"⟩
abbrev cX10_checksum : ByteArray := prog_12_method_70_code
def yX10_checksum : MethodName := ⟨RX10, "checksum", "()J"⟩
def RJ11 : String := "java/lang/Character"
def TJ11 : u_T := fun k => match k with
  | _ => ("", "", "", false)
def tyJ11 : Nat → FieldType := fun k => match k with
  | _ => .int
abbrev wsJ110 : List Cond := u_ws RJ11 TJ11 0
theorem nmJ11 : ∀ a, a < 0 → ∀ b, b < 0 → a ≠ b → (TJ11 a).2.1 ≠ (TJ11 b).2.1 := by decide +kernel
theorem tyJ11_ok : ∀ k, k < 0 → parseFieldDescriptor (TJ11 k).2.2.1 = some (tyJ11 k) := by decide +kernel
abbrev cJ11_isValidCodePoint_9a6ad : ByteArray := prog_13_method_11_code
def yJ11_isValidCodePoint_9a6ad : MethodName := ⟨RJ11, "isValidCodePoint", "(I)Z"⟩
abbrev cJ11_highSurrogate_5068e : ByteArray := prog_13_method_28_code
def yJ11_highSurrogate_5068e : MethodName := ⟨RJ11, "highSurrogate", "(I)C"⟩
abbrev cJ11_lowSurrogate_5068e : ByteArray := prog_13_method_29_code
def yJ11_lowSurrogate_5068e : MethodName := ⟨RJ11, "lowSurrogate", "(I)C"⟩
def RJ6 : String := "java/lang/Integer"
def TJ6 : u_T := fun k => match k with
  | _ => ("", "", "", false)
def tyJ6 : Nat → FieldType := fun k => match k with
  | _ => .int
abbrev wsJ60 : List Cond := u_ws RJ6 TJ6 0
theorem nmJ6 : ∀ a, a < 0 → ∀ b, b < 0 → a ≠ b → (TJ6 a).2.1 ≠ (TJ6 b).2.1 := by decide +kernel
theorem tyJ6_ok : ∀ k, k < 0 → parseFieldDescriptor (TJ6 k).2.2.1 = some (tyJ6 k) := by decide +kernel
abbrev cJ6_bitCount_0f7a4 : ByteArray := prog_14_method_49_code
def yJ6_bitCount_0f7a4 : MethodName := ⟨RJ6, "bitCount", "(I)I"⟩
def RJ9 : String := "java/lang/Math"
def TJ9 : u_T := fun k => match k with
  | _ => ("", "", "", false)
def tyJ9 : Nat → FieldType := fun k => match k with
  | _ => .int
abbrev wsJ90 : List Cond := u_ws RJ9 TJ9 0
theorem nmJ9 : ∀ a, a < 0 → ∀ b, b < 0 → a ≠ b → (TJ9 a).2.1 ≠ (TJ9 b).2.1 := by decide +kernel
theorem tyJ9_ok : ∀ k, k < 0 → parseFieldDescriptor (TJ9 k).2.2.1 = some (tyJ9 k) := by decide +kernel
abbrev cJ9_abs_0f7a4 : ByteArray := prog_15_method_59_code
def yJ9_abs_0f7a4 : MethodName := ⟨RJ9, "abs", "(I)I"⟩
abbrev cJ9_max_7cf53 : ByteArray := prog_15_method_65_code
def yJ9_max_7cf53 : MethodName := ⟨RJ9, "max", "(II)I"⟩
abbrev cJ9_min_7cf53 : ByteArray := prog_15_method_69_code
def yJ9_min_7cf53 : MethodName := ⟨RJ9, "min", "(II)I"⟩
def RJ0 : String := "java/lang/String"
def TJ0 : u_T := fun k => match k with
  | _ => ("", "", "", false)
def tyJ0 : Nat → FieldType := fun k => match k with
  | _ => .int
abbrev wsJ00 : List Cond := u_ws RJ0 TJ0 0
theorem nmJ0 : ∀ a, a < 0 → ∀ b, b < 0 → a ≠ b → (TJ0 a).2.1 ≠ (TJ0 b).2.1 := by decide +kernel
theorem tyJ0_ok : ∀ k, k < 0 → parseFieldDescriptor (TJ0 k).2.2.1 = some (tyJ0 k) := by decide +kernel
abbrev cJ0_length_8abf5 : ByteArray := prog_16_method_54_code
def yJ0_length_8abf5 : MethodName := ⟨RJ0, "length", "()I"⟩
abbrev cJ0_indexOf_0f7a4 : ByteArray := prog_16_method_79_code
def yJ0_indexOf_0f7a4 : MethodName := ⟨RJ0, "indexOf", "(I)I"⟩
abbrev cJ0_indexOf_7cf53 : ByteArray := prog_16_method_80_code
def yJ0_indexOf_7cf53 : MethodName := ⟨RJ0, "indexOf", "(II)I"⟩
abbrev cJ0_coder_7d493 : ByteArray := prog_16_method_152_code
def yJ0_coder_7d493 : MethodName := ⟨RJ0, "coder", "()B"⟩
abbrev cJ0_isLatin1_aae02 : ByteArray := prog_16_method_154_code
def yJ0_isLatin1_aae02 : MethodName := ⟨RJ0, "isLatin1", "()Z"⟩
abbrev cJ0_checkBoundsBeginEnd_23922 : ByteArray := prog_16_method_158_code
def yJ0_checkBoundsBeginEnd_23922 : MethodName := ⟨RJ0, "checkBoundsBeginEnd", "(III)V"⟩
def RJ1 : String := "java/lang/StringLatin1"
def TJ1 : u_T := fun k => match k with
  | _ => ("", "", "", false)
def tyJ1 : Nat → FieldType := fun k => match k with
  | _ => .int
abbrev wsJ10 : List Cond := u_ws RJ1 TJ1 0
theorem nmJ1 : ∀ a, a < 0 → ∀ b, b < 0 → a ≠ b → (TJ1 a).2.1 ≠ (TJ1 b).2.1 := by decide +kernel
theorem tyJ1_ok : ∀ k, k < 0 → parseFieldDescriptor (TJ1 k).2.2.1 = some (tyJ1 k) := by decide +kernel
abbrev cJ1_canEncode_9a6ad : ByteArray := prog_17_method_4_code
def yJ1_canEncode_9a6ad : MethodName := ⟨RJ1, "canEncode", "(I)Z"⟩
abbrev cJ1_indexOf_4cfef : ByteArray := prog_17_method_22_code
def yJ1_indexOf_4cfef : MethodName := ⟨RJ1, "indexOf", "([BIII)I"⟩
abbrev cJ1_indexOfChar_4cfef : ByteArray := prog_17_method_23_code
def yJ1_indexOfChar_4cfef : MethodName := ⟨RJ1, "indexOfChar", "([BIII)I"⟩
def RJ2 : String := "java/lang/StringUTF16"
def TJ2 : u_T := fun k => match k with
  | _ => ("", "", "", false)
def tyJ2 : Nat → FieldType := fun k => match k with
  | _ => .int
abbrev wsJ20 : List Cond := u_ws RJ2 TJ2 0
theorem nmJ2 : ∀ a, a < 0 → ∀ b, b < 0 → a ≠ b → (TJ2 a).2.1 ≠ (TJ2 b).2.1 := by decide +kernel
theorem tyJ2_ok : ∀ k, k < 0 → parseFieldDescriptor (TJ2 k).2.2.1 = some (tyJ2 k) := by decide +kernel
abbrev cJ2_getChar_3b067 : ByteArray := prog_18_method_5_code
def yJ2_getChar_3b067 : MethodName := ⟨RJ2, "getChar", "([BI)C"⟩
abbrev cJ2_length_9d52b : ByteArray := prog_18_method_6_code
def yJ2_length_9d52b : MethodName := ⟨RJ2, "length", "([B)I"⟩
abbrev cJ2_indexOf_4cfef : ByteArray := prog_18_method_40_code
def yJ2_indexOf_4cfef : MethodName := ⟨RJ2, "indexOf", "([BIII)I"⟩
abbrev cJ2_indexOfChar_4cfef : ByteArray := prog_18_method_47_code
def yJ2_indexOfChar_4cfef : MethodName := ⟨RJ2, "indexOfChar", "([BIII)I"⟩
abbrev cJ2_indexOfCharUnsafe_4cfef : ByteArray := prog_18_method_48_code
def yJ2_indexOfCharUnsafe_4cfef : MethodName := ⟨RJ2, "indexOfCharUnsafe", "([BIII)I"⟩
abbrev cJ2_indexOfSupplementary_4cfef : ByteArray := prog_18_method_49_code
def yJ2_indexOfSupplementary_4cfef : MethodName := ⟨RJ2, "indexOfSupplementary", "([BIII)I"⟩
abbrev cJ2_checkBoundsBeginEnd_d044e : ByteArray := prog_18_method_93_code
def yJ2_checkBoundsBeginEnd_d044e : MethodName := ⟨RJ2, "checkBoundsBeginEnd", "(II[B)V"⟩
def RJ10 : String := "java/lang/System"
def TJ10 : u_T := fun k => match k with
  | _ => ("", "", "", false)
def tyJ10 : Nat → FieldType := fun k => match k with
  | _ => .int
abbrev wsJ100 : List Cond := u_ws RJ10 TJ10 0
theorem nmJ10 : ∀ a, a < 0 → ∀ b, b < 0 → a ≠ b → (TJ10 a).2.1 ≠ (TJ10 b).2.1 := by decide +kernel
theorem tyJ10_ok : ∀ k, k < 0 → parseFieldDescriptor (TJ10 k).2.2.1 = some (tyJ10 k) := by decide +kernel
def RJ3 : String := "jdk/internal/util/Preconditions"
def TJ3 : u_T := fun k => match k with
  | _ => ("", "", "", false)
def tyJ3 : Nat → FieldType := fun k => match k with
  | _ => .int
abbrev wsJ30 : List Cond := u_ws RJ3 TJ3 0
theorem nmJ3 : ∀ a, a < 0 → ∀ b, b < 0 → a ≠ b → (TJ3 a).2.1 ≠ (TJ3 b).2.1 := by decide +kernel
theorem tyJ3_ok : ∀ k, k < 0 → parseFieldDescriptor (TJ3 k).2.2.1 = some (tyJ3 k) := by decide +kernel
abbrev cJ3_checkFromToIndex_8c36e : ByteArray := prog_20_method_12_code
def yJ3_checkFromToIndex_8c36e : MethodName := ⟨RJ3, "checkFromToIndex", "(IIILjava/util/function/BiFunction;)I"⟩
def RL : String := "GradeGraphLaw"
abbrev cL_law : ByteArray := code
def yL_law : MethodName := ⟨RL, "law", "([I)Z"⟩
abbrev vwCl : List vw_C := [(RX0, TX0, 8), (RX1, TX1, 5), (RX3, TX3, 5), (RX5, TX5, 4), (RX6, TX6, 7), (RX8, TX8, 2), (RX9, TX9, 6), (RX10, TX10, 28)]
end
section
theorem dJ0_coder_7d493_0 : decode cJ0_coder_7d493 0 = .ok (.getstatic 38, 3) := by decide +kernel
theorem dJ0_coder_7d493_3 : decode cJ0_coder_7d493 3 = .ok (.ifCond .eq 10, 3) := by decide +kernel
theorem dJ0_coder_7d493_6 : decode cJ0_coder_7d493 6 = .ok (.aload_n 0, 1) := by decide +kernel
theorem dJ0_coder_7d493_7 : decode cJ0_coder_7d493 7 = .ok (.getfield 15, 3) := by decide +kernel
theorem dJ0_coder_7d493_10 : decode cJ0_coder_7d493 10 = .ok (.goto 4, 3) := by decide +kernel
theorem dJ0_coder_7d493_13 : decode cJ0_coder_7d493 13 = .ok (.iconst 1, 1) := by decide +kernel
theorem dJ0_coder_7d493_14 : decode cJ0_coder_7d493 14 = .ok (.ireturn, 1) := by decide +kernel
theorem dJ0_indexOf_0f7a4_0 : decode cJ0_indexOf_0f7a4 0 = .ok (.aload_n 0, 1) := by decide +kernel
theorem dJ0_indexOf_0f7a4_1 : decode cJ0_indexOf_0f7a4 1 = .ok (.iload_n 1, 1) := by decide +kernel
theorem dJ0_indexOf_0f7a4_2 : decode cJ0_indexOf_0f7a4 2 = .ok (.iconst 0, 1) := by decide +kernel
theorem dJ0_indexOf_0f7a4_3 : decode cJ0_indexOf_0f7a4 3 = .ok (.invokevirtual 633, 3) := by decide +kernel
theorem dJ0_indexOf_0f7a4_6 : decode cJ0_indexOf_0f7a4 6 = .ok (.ireturn, 1) := by decide +kernel
theorem dJ0_indexOf_7cf53_0 : decode cJ0_indexOf_7cf53 0 = .ok (.aload_n 0, 1) := by decide +kernel
theorem dJ0_indexOf_7cf53_1 : decode cJ0_indexOf_7cf53 1 = .ok (.invokevirtual 492, 3) := by decide +kernel
theorem dJ0_indexOf_7cf53_4 : decode cJ0_indexOf_7cf53 4 = .ok (.ifCond .eq 19, 3) := by decide +kernel
theorem dJ0_indexOf_7cf53_7 : decode cJ0_indexOf_7cf53 7 = .ok (.aload_n 0, 1) := by decide +kernel
theorem dJ0_indexOf_7cf53_8 : decode cJ0_indexOf_7cf53 8 = .ok (.getfield 9, 3) := by decide +kernel
theorem dJ0_indexOf_7cf53_11 : decode cJ0_indexOf_7cf53 11 = .ok (.iload_n 1, 1) := by decide +kernel
theorem dJ0_indexOf_7cf53_12 : decode cJ0_indexOf_7cf53 12 = .ok (.iload_n 2, 1) := by decide +kernel
theorem dJ0_indexOf_7cf53_13 : decode cJ0_indexOf_7cf53 13 = .ok (.aload_n 0, 1) := by decide +kernel
theorem dJ0_indexOf_7cf53_14 : decode cJ0_indexOf_7cf53 14 = .ok (.invokevirtual 505, 3) := by decide +kernel
theorem dJ0_indexOf_7cf53_17 : decode cJ0_indexOf_7cf53 17 = .ok (.invokestatic 637, 3) := by decide +kernel
theorem dJ0_indexOf_7cf53_20 : decode cJ0_indexOf_7cf53 20 = .ok (.goto 16, 3) := by decide +kernel
theorem dJ0_indexOf_7cf53_23 : decode cJ0_indexOf_7cf53 23 = .ok (.aload_n 0, 1) := by decide +kernel
theorem dJ0_indexOf_7cf53_24 : decode cJ0_indexOf_7cf53 24 = .ok (.getfield 9, 3) := by decide +kernel
theorem dJ0_indexOf_7cf53_27 : decode cJ0_indexOf_7cf53 27 = .ok (.iload_n 1, 1) := by decide +kernel
theorem dJ0_indexOf_7cf53_28 : decode cJ0_indexOf_7cf53 28 = .ok (.iload_n 2, 1) := by decide +kernel
theorem dJ0_indexOf_7cf53_29 : decode cJ0_indexOf_7cf53 29 = .ok (.aload_n 0, 1) := by decide +kernel
theorem dJ0_indexOf_7cf53_30 : decode cJ0_indexOf_7cf53 30 = .ok (.invokevirtual 505, 3) := by decide +kernel
theorem dJ0_indexOf_7cf53_33 : decode cJ0_indexOf_7cf53 33 = .ok (.invokestatic 640, 3) := by decide +kernel
theorem dJ0_indexOf_7cf53_36 : decode cJ0_indexOf_7cf53 36 = .ok (.ireturn, 1) := by decide +kernel
theorem dJ0_isLatin1_aae02_0 : decode cJ0_isLatin1_aae02 0 = .ok (.getstatic 38, 3) := by decide +kernel
theorem dJ0_isLatin1_aae02_3 : decode cJ0_isLatin1_aae02 3 = .ok (.ifCond .eq 14, 3) := by decide +kernel
theorem dJ0_isLatin1_aae02_6 : decode cJ0_isLatin1_aae02 6 = .ok (.aload_n 0, 1) := by decide +kernel
theorem dJ0_isLatin1_aae02_7 : decode cJ0_isLatin1_aae02 7 = .ok (.getfield 15, 3) := by decide +kernel
theorem dJ0_isLatin1_aae02_10 : decode cJ0_isLatin1_aae02 10 = .ok (.ifCond .ne 7, 3) := by decide +kernel
theorem dJ0_isLatin1_aae02_13 : decode cJ0_isLatin1_aae02 13 = .ok (.iconst 1, 1) := by decide +kernel
theorem dJ0_isLatin1_aae02_14 : decode cJ0_isLatin1_aae02 14 = .ok (.goto 4, 3) := by decide +kernel
theorem dJ0_isLatin1_aae02_17 : decode cJ0_isLatin1_aae02 17 = .ok (.iconst 0, 1) := by decide +kernel
theorem dJ0_isLatin1_aae02_18 : decode cJ0_isLatin1_aae02 18 = .ok (.ireturn, 1) := by decide +kernel
theorem dJ0_length_8abf5_0 : decode cJ0_length_8abf5 0 = .ok (.aload_n 0, 1) := by decide +kernel
theorem dJ0_length_8abf5_1 : decode cJ0_length_8abf5 1 = .ok (.getfield 9, 3) := by decide +kernel
theorem dJ0_length_8abf5_4 : decode cJ0_length_8abf5 4 = .ok (.arraylength, 1) := by decide +kernel
theorem dJ0_length_8abf5_5 : decode cJ0_length_8abf5 5 = .ok (.aload_n 0, 1) := by decide +kernel
theorem dJ0_length_8abf5_6 : decode cJ0_length_8abf5 6 = .ok (.invokevirtual 335, 3) := by decide +kernel
theorem dJ0_length_8abf5_9 : decode cJ0_length_8abf5 9 = .ok (.ishr, 1) := by decide +kernel
theorem dJ0_length_8abf5_10 : decode cJ0_length_8abf5 10 = .ok (.ireturn, 1) := by decide +kernel
theorem dJ1_canEncode_9a6ad_0 : decode cJ1_canEncode_9a6ad 0 = .ok (.iload_n 0, 1) := by decide +kernel
theorem dJ1_canEncode_9a6ad_1 : decode cJ1_canEncode_9a6ad 1 = .ok (.ifCond .lt 14, 3) := by decide +kernel
theorem dJ1_canEncode_9a6ad_4 : decode cJ1_canEncode_9a6ad 4 = .ok (.iload_n 0, 1) := by decide +kernel
theorem dJ1_canEncode_9a6ad_5 : decode cJ1_canEncode_9a6ad 5 = .ok (.sipush 255, 3) := by decide +kernel
theorem dJ1_canEncode_9a6ad_8 : decode cJ1_canEncode_9a6ad 8 = .ok (.if_icmp .gt 7, 3) := by decide +kernel
theorem dJ1_canEncode_9a6ad_11 : decode cJ1_canEncode_9a6ad 11 = .ok (.iconst 1, 1) := by decide +kernel
theorem dJ1_canEncode_9a6ad_12 : decode cJ1_canEncode_9a6ad 12 = .ok (.goto 4, 3) := by decide +kernel
theorem dJ1_canEncode_9a6ad_15 : decode cJ1_canEncode_9a6ad 15 = .ok (.iconst 0, 1) := by decide +kernel
theorem dJ1_canEncode_9a6ad_16 : decode cJ1_canEncode_9a6ad 16 = .ok (.ireturn, 1) := by decide +kernel
theorem dJ1_indexOfChar_4cfef_0 : decode cJ1_indexOfChar_4cfef 0 = .ok (.iload_n 1, 1) := by decide +kernel
theorem dJ1_indexOfChar_4cfef_1 : decode cJ1_indexOfChar_4cfef 1 = .ok (.i2b, 1) := by decide +kernel
theorem dJ1_indexOfChar_4cfef_2 : decode cJ1_indexOfChar_4cfef 2 = .ok (.istore 4, 2) := by decide +kernel
theorem dJ1_indexOfChar_4cfef_4 : decode cJ1_indexOfChar_4cfef 4 = .ok (.iload_n 2, 1) := by decide +kernel
theorem dJ1_indexOfChar_4cfef_5 : decode cJ1_indexOfChar_4cfef 5 = .ok (.istore 5, 2) := by decide +kernel
theorem dJ1_indexOfChar_4cfef_7 : decode cJ1_indexOfChar_4cfef 7 = .ok (.iload 5, 2) := by decide +kernel
theorem dJ1_indexOfChar_4cfef_9 : decode cJ1_indexOfChar_4cfef 9 = .ok (.iload_n 3, 1) := by decide +kernel
theorem dJ1_indexOfChar_4cfef_10 : decode cJ1_indexOfChar_4cfef 10 = .ok (.if_icmp .ge 21, 3) := by decide +kernel
theorem dJ1_indexOfChar_4cfef_13 : decode cJ1_indexOfChar_4cfef 13 = .ok (.aload_n 0, 1) := by decide +kernel
theorem dJ1_indexOfChar_4cfef_14 : decode cJ1_indexOfChar_4cfef 14 = .ok (.iload 5, 2) := by decide +kernel
theorem dJ1_indexOfChar_4cfef_16 : decode cJ1_indexOfChar_4cfef 16 = .ok (.baload, 1) := by decide +kernel
theorem dJ1_indexOfChar_4cfef_17 : decode cJ1_indexOfChar_4cfef 17 = .ok (.iload 4, 2) := by decide +kernel
theorem dJ1_indexOfChar_4cfef_19 : decode cJ1_indexOfChar_4cfef 19 = .ok (.if_icmp .ne 6, 3) := by decide +kernel
theorem dJ1_indexOfChar_4cfef_22 : decode cJ1_indexOfChar_4cfef 22 = .ok (.iload 5, 2) := by decide +kernel
theorem dJ1_indexOfChar_4cfef_24 : decode cJ1_indexOfChar_4cfef 24 = .ok (.ireturn, 1) := by decide +kernel
theorem dJ1_indexOfChar_4cfef_25 : decode cJ1_indexOfChar_4cfef 25 = .ok (.iinc 5 1, 3) := by decide +kernel
theorem dJ1_indexOfChar_4cfef_28 : decode cJ1_indexOfChar_4cfef 28 = .ok (.goto (-21), 3) := by decide +kernel
theorem dJ1_indexOfChar_4cfef_31 : decode cJ1_indexOfChar_4cfef 31 = .ok (.iconst (-1), 1) := by decide +kernel
theorem dJ1_indexOfChar_4cfef_32 : decode cJ1_indexOfChar_4cfef 32 = .ok (.ireturn, 1) := by decide +kernel
theorem dJ1_indexOf_4cfef_0 : decode cJ1_indexOf_4cfef 0 = .ok (.iload_n 1, 1) := by decide +kernel
theorem dJ1_indexOf_4cfef_1 : decode cJ1_indexOf_4cfef 1 = .ok (.invokestatic 88, 3) := by decide +kernel
theorem dJ1_indexOf_4cfef_4 : decode cJ1_indexOf_4cfef 4 = .ok (.ifCond .ne 5, 3) := by decide +kernel
theorem dJ1_indexOf_4cfef_7 : decode cJ1_indexOf_4cfef 7 = .ok (.iconst (-1), 1) := by decide +kernel
theorem dJ1_indexOf_4cfef_8 : decode cJ1_indexOf_4cfef 8 = .ok (.ireturn, 1) := by decide +kernel
theorem dJ1_indexOf_4cfef_9 : decode cJ1_indexOf_4cfef 9 = .ok (.iload_n 2, 1) := by decide +kernel
theorem dJ1_indexOf_4cfef_10 : decode cJ1_indexOf_4cfef 10 = .ok (.iconst 0, 1) := by decide +kernel
theorem dJ1_indexOf_4cfef_11 : decode cJ1_indexOf_4cfef 11 = .ok (.invokestatic 92, 3) := by decide +kernel
theorem dJ1_indexOf_4cfef_14 : decode cJ1_indexOf_4cfef 14 = .ok (.istore_n 2, 1) := by decide +kernel
theorem dJ1_indexOf_4cfef_15 : decode cJ1_indexOf_4cfef 15 = .ok (.iload_n 3, 1) := by decide +kernel
theorem dJ1_indexOf_4cfef_16 : decode cJ1_indexOf_4cfef 16 = .ok (.aload_n 0, 1) := by decide +kernel
theorem dJ1_indexOf_4cfef_17 : decode cJ1_indexOf_4cfef 17 = .ok (.arraylength, 1) := by decide +kernel
theorem dJ1_indexOf_4cfef_18 : decode cJ1_indexOf_4cfef 18 = .ok (.invokestatic 38, 3) := by decide +kernel
theorem dJ1_indexOf_4cfef_21 : decode cJ1_indexOf_4cfef 21 = .ok (.istore_n 3, 1) := by decide +kernel
theorem dJ1_indexOf_4cfef_22 : decode cJ1_indexOf_4cfef 22 = .ok (.iload_n 2, 1) := by decide +kernel
theorem dJ1_indexOf_4cfef_23 : decode cJ1_indexOf_4cfef 23 = .ok (.iload_n 3, 1) := by decide +kernel
theorem dJ1_indexOf_4cfef_24 : decode cJ1_indexOf_4cfef 24 = .ok (.if_icmp .lt 5, 3) := by decide +kernel
theorem dJ1_indexOf_4cfef_27 : decode cJ1_indexOf_4cfef 27 = .ok (.iconst (-1), 1) := by decide +kernel
theorem dJ1_indexOf_4cfef_28 : decode cJ1_indexOf_4cfef 28 = .ok (.ireturn, 1) := by decide +kernel
theorem dJ1_indexOf_4cfef_29 : decode cJ1_indexOf_4cfef 29 = .ok (.aload_n 0, 1) := by decide +kernel
theorem dJ1_indexOf_4cfef_30 : decode cJ1_indexOf_4cfef 30 = .ok (.iload_n 1, 1) := by decide +kernel
theorem dJ1_indexOf_4cfef_31 : decode cJ1_indexOf_4cfef 31 = .ok (.iload_n 2, 1) := by decide +kernel
theorem dJ1_indexOf_4cfef_32 : decode cJ1_indexOf_4cfef 32 = .ok (.iload_n 3, 1) := by decide +kernel
theorem dJ1_indexOf_4cfef_33 : decode cJ1_indexOf_4cfef 33 = .ok (.invokestatic 95, 3) := by decide +kernel
theorem dJ1_indexOf_4cfef_36 : decode cJ1_indexOf_4cfef 36 = .ok (.ireturn, 1) := by decide +kernel
theorem dJ6_bitCount_0f7a4_0 : decode cJ6_bitCount_0f7a4 0 = .ok (.iload_n 0, 1) := by decide +kernel
theorem dJ6_bitCount_0f7a4_1 : decode cJ6_bitCount_0f7a4 1 = .ok (.iload_n 0, 1) := by decide +kernel
theorem dJ6_bitCount_0f7a4_2 : decode cJ6_bitCount_0f7a4 2 = .ok (.iconst 1, 1) := by decide +kernel
theorem dJ6_bitCount_0f7a4_3 : decode cJ6_bitCount_0f7a4 3 = .ok (.iushr, 1) := by decide +kernel
theorem dJ6_bitCount_0f7a4_4 : decode cJ6_bitCount_0f7a4 4 = .ok (.ldc_w 265, 3) := by decide +kernel
theorem dJ6_bitCount_0f7a4_7 : decode cJ6_bitCount_0f7a4 7 = .ok (.iand, 1) := by decide +kernel
theorem dJ6_bitCount_0f7a4_8 : decode cJ6_bitCount_0f7a4 8 = .ok (.isub, 1) := by decide +kernel
theorem dJ6_bitCount_0f7a4_9 : decode cJ6_bitCount_0f7a4 9 = .ok (.istore_n 0, 1) := by decide +kernel
theorem dJ6_bitCount_0f7a4_10 : decode cJ6_bitCount_0f7a4 10 = .ok (.iload_n 0, 1) := by decide +kernel
theorem dJ6_bitCount_0f7a4_11 : decode cJ6_bitCount_0f7a4 11 = .ok (.ldc_w 266, 3) := by decide +kernel
theorem dJ6_bitCount_0f7a4_14 : decode cJ6_bitCount_0f7a4 14 = .ok (.iand, 1) := by decide +kernel
theorem dJ6_bitCount_0f7a4_15 : decode cJ6_bitCount_0f7a4 15 = .ok (.iload_n 0, 1) := by decide +kernel
theorem dJ6_bitCount_0f7a4_16 : decode cJ6_bitCount_0f7a4 16 = .ok (.iconst 2, 1) := by decide +kernel
theorem dJ6_bitCount_0f7a4_17 : decode cJ6_bitCount_0f7a4 17 = .ok (.iushr, 1) := by decide +kernel
theorem dJ6_bitCount_0f7a4_18 : decode cJ6_bitCount_0f7a4 18 = .ok (.ldc_w 266, 3) := by decide +kernel
theorem dJ6_bitCount_0f7a4_21 : decode cJ6_bitCount_0f7a4 21 = .ok (.iand, 1) := by decide +kernel
theorem dJ6_bitCount_0f7a4_22 : decode cJ6_bitCount_0f7a4 22 = .ok (.iadd, 1) := by decide +kernel
theorem dJ6_bitCount_0f7a4_23 : decode cJ6_bitCount_0f7a4 23 = .ok (.istore_n 0, 1) := by decide +kernel
theorem dJ6_bitCount_0f7a4_24 : decode cJ6_bitCount_0f7a4 24 = .ok (.iload_n 0, 1) := by decide +kernel
theorem dJ6_bitCount_0f7a4_25 : decode cJ6_bitCount_0f7a4 25 = .ok (.iload_n 0, 1) := by decide +kernel
theorem dJ6_bitCount_0f7a4_26 : decode cJ6_bitCount_0f7a4 26 = .ok (.iconst 4, 1) := by decide +kernel
theorem dJ6_bitCount_0f7a4_27 : decode cJ6_bitCount_0f7a4 27 = .ok (.iushr, 1) := by decide +kernel
theorem dJ6_bitCount_0f7a4_28 : decode cJ6_bitCount_0f7a4 28 = .ok (.iadd, 1) := by decide +kernel
theorem dJ6_bitCount_0f7a4_29 : decode cJ6_bitCount_0f7a4 29 = .ok (.ldc_w 267, 3) := by decide +kernel
theorem dJ6_bitCount_0f7a4_32 : decode cJ6_bitCount_0f7a4 32 = .ok (.iand, 1) := by decide +kernel
theorem dJ6_bitCount_0f7a4_33 : decode cJ6_bitCount_0f7a4 33 = .ok (.istore_n 0, 1) := by decide +kernel
theorem dJ6_bitCount_0f7a4_34 : decode cJ6_bitCount_0f7a4 34 = .ok (.iload_n 0, 1) := by decide +kernel
theorem dJ6_bitCount_0f7a4_35 : decode cJ6_bitCount_0f7a4 35 = .ok (.iload_n 0, 1) := by decide +kernel
theorem dJ6_bitCount_0f7a4_36 : decode cJ6_bitCount_0f7a4 36 = .ok (.bipush 8, 2) := by decide +kernel
theorem dJ6_bitCount_0f7a4_38 : decode cJ6_bitCount_0f7a4 38 = .ok (.iushr, 1) := by decide +kernel
theorem dJ6_bitCount_0f7a4_39 : decode cJ6_bitCount_0f7a4 39 = .ok (.iadd, 1) := by decide +kernel
theorem dJ6_bitCount_0f7a4_40 : decode cJ6_bitCount_0f7a4 40 = .ok (.istore_n 0, 1) := by decide +kernel
theorem dJ6_bitCount_0f7a4_41 : decode cJ6_bitCount_0f7a4 41 = .ok (.iload_n 0, 1) := by decide +kernel
theorem dJ6_bitCount_0f7a4_42 : decode cJ6_bitCount_0f7a4 42 = .ok (.iload_n 0, 1) := by decide +kernel
theorem dJ6_bitCount_0f7a4_43 : decode cJ6_bitCount_0f7a4 43 = .ok (.bipush 16, 2) := by decide +kernel
theorem dJ6_bitCount_0f7a4_45 : decode cJ6_bitCount_0f7a4 45 = .ok (.iushr, 1) := by decide +kernel
theorem dJ6_bitCount_0f7a4_46 : decode cJ6_bitCount_0f7a4 46 = .ok (.iadd, 1) := by decide +kernel
theorem dJ6_bitCount_0f7a4_47 : decode cJ6_bitCount_0f7a4 47 = .ok (.istore_n 0, 1) := by decide +kernel
theorem dJ6_bitCount_0f7a4_48 : decode cJ6_bitCount_0f7a4 48 = .ok (.iload_n 0, 1) := by decide +kernel
theorem dJ6_bitCount_0f7a4_49 : decode cJ6_bitCount_0f7a4 49 = .ok (.bipush 63, 2) := by decide +kernel
theorem dJ6_bitCount_0f7a4_51 : decode cJ6_bitCount_0f7a4 51 = .ok (.iand, 1) := by decide +kernel
theorem dJ6_bitCount_0f7a4_52 : decode cJ6_bitCount_0f7a4 52 = .ok (.ireturn, 1) := by decide +kernel
theorem dX0_admit_0 : decode cX0_admit 0 = .ok (.aload_n 0, 1) := by decide +kernel
theorem dX0_admit_1 : decode cX0_admit 1 = .ok (.dup, 1) := by decide +kernel
theorem dX0_admit_2 : decode cX0_admit 2 = .ok (.getfield 38, 3) := by decide +kernel
theorem dX0_admit_5 : decode cX0_admit 5 = .ok (.iconst 1, 1) := by decide +kernel
theorem dX0_admit_6 : decode cX0_admit 6 = .ok (.iadd, 1) := by decide +kernel
theorem dX0_admit_7 : decode cX0_admit 7 = .ok (.putfield 38, 3) := by decide +kernel
theorem dX0_admit_10 : decode cX0_admit 10 = .ok (.aload_n 0, 1) := by decide +kernel
theorem dX0_admit_11 : decode cX0_admit 11 = .ok (.getfield 22, 3) := by decide +kernel
theorem dX0_admit_14 : decode cX0_admit 14 = .ok (.aload_n 0, 1) := by decide +kernel
theorem dX0_admit_15 : decode cX0_admit 15 = .ok (.getfield 17, 3) := by decide +kernel
theorem dX0_admit_18 : decode cX0_admit 18 = .ok (.if_icmp .lt 7, 3) := by decide +kernel
theorem dX0_admit_21 : decode cX0_admit 21 = .ok (.aload_n 0, 1) := by decide +kernel
theorem dX0_admit_22 : decode cX0_admit 22 = .ok (.invokevirtual 41, 3) := by decide +kernel
theorem dX0_admit_25 : decode cX0_admit 25 = .ok (.aload_n 0, 1) := by decide +kernel
theorem dX0_admit_26 : decode cX0_admit 26 = .ok (.getfield 11, 3) := by decide +kernel
theorem dX0_admit_29 : decode cX0_admit 29 = .ok (.aload_n 0, 1) := by decide +kernel
theorem dX0_admit_30 : decode cX0_admit 30 = .ok (.getfield 22, 3) := by decide +kernel
theorem dX0_admit_33 : decode cX0_admit 33 = .ok (.aaload, 1) := by decide +kernel
theorem dX0_admit_34 : decode cX0_admit 34 = .ok (.astore_n 3, 1) := by decide +kernel
theorem dX0_admit_35 : decode cX0_admit 35 = .ok (.aload_n 0, 1) := by decide +kernel
theorem dX0_admit_36 : decode cX0_admit 36 = .ok (.dup, 1) := by decide +kernel
theorem dX0_admit_37 : decode cX0_admit 37 = .ok (.getfield 22, 3) := by decide +kernel
theorem dX0_admit_40 : decode cX0_admit 40 = .ok (.iconst 1, 1) := by decide +kernel
theorem dX0_admit_41 : decode cX0_admit 41 = .ok (.iadd, 1) := by decide +kernel
theorem dX0_admit_42 : decode cX0_admit 42 = .ok (.putfield 22, 3) := by decide +kernel
theorem dX0_admit_45 : decode cX0_admit 45 = .ok (.aload_n 3, 1) := by decide +kernel
theorem dX0_admit_46 : decode cX0_admit 46 = .ok (.iload_n 1, 1) := by decide +kernel
theorem dX0_admit_47 : decode cX0_admit 47 = .ok (.putfield 25, 3) := by decide +kernel
theorem dX0_admit_50 : decode cX0_admit 50 = .ok (.aload_n 3, 1) := by decide +kernel
theorem dX0_admit_51 : decode cX0_admit 51 = .ok (.iload_n 2, 1) := by decide +kernel
theorem dX0_admit_52 : decode cX0_admit 52 = .ok (.putfield 28, 3) := by decide +kernel
theorem dX0_admit_55 : decode cX0_admit 55 = .ok (.aload_n 0, 1) := by decide +kernel
theorem dX0_admit_56 : decode cX0_admit 56 = .ok (.aload_n 3, 1) := by decide +kernel
theorem dX0_admit_57 : decode cX0_admit 57 = .ok (.invokevirtual 34, 3) := by decide +kernel
theorem dX0_admit_60 : decode cX0_admit 60 = .ok (.aload_n 3, 1) := by decide +kernel
theorem dX0_admit_61 : decode cX0_admit 61 = .ok (.areturn, 1) := by decide +kernel
theorem dX0_changeRoom_0 : decode cX0_changeRoom 0 = .ok (.aload_n 0, 1) := by decide +kernel
theorem dX0_changeRoom_1 : decode cX0_changeRoom 1 = .ok (.iload_n 1, 1) := by decide +kernel
theorem dX0_changeRoom_2 : decode cX0_changeRoom 2 = .ok (.putfield 17, 3) := by decide +kernel
theorem dX0_changeRoom_5 : decode cX0_changeRoom 5 = .ok (.aload_n 0, 1) := by decide +kernel
theorem dX0_changeRoom_6 : decode cX0_changeRoom 6 = .ok (.getfield 22, 3) := by decide +kernel
theorem dX0_changeRoom_9 : decode cX0_changeRoom 9 = .ok (.iload_n 1, 1) := by decide +kernel
theorem dX0_changeRoom_10 : decode cX0_changeRoom 10 = .ok (.isub, 1) := by decide +kernel
theorem dX0_changeRoom_11 : decode cX0_changeRoom 11 = .ok (.istore_n 2, 1) := by decide +kernel
theorem dX0_changeRoom_12 : decode cX0_changeRoom 12 = .ok (.iload_n 2, 1) := by decide +kernel
theorem dX0_changeRoom_13 : decode cX0_changeRoom 13 = .ok (.ifCond .le 13, 3) := by decide +kernel
theorem dX0_changeRoom_16 : decode cX0_changeRoom 16 = .ok (.aload_n 0, 1) := by decide +kernel
theorem dX0_changeRoom_17 : decode cX0_changeRoom 17 = .ok (.invokevirtual 41, 3) := by decide +kernel
theorem dX0_changeRoom_20 : decode cX0_changeRoom 20 = .ok (.iinc 2 (-1), 3) := by decide +kernel
theorem dX0_changeRoom_23 : decode cX0_changeRoom 23 = .ok (.goto (-11), 3) := by decide +kernel
theorem dX0_changeRoom_26 : decode cX0_changeRoom 26 = .ok (.return_, 1) := by decide +kernel
theorem dX0_dropOldest_0 : decode cX0_dropOldest 0 = .ok (.iconst 0, 1) := by decide +kernel
theorem dX0_dropOldest_1 : decode cX0_dropOldest 1 = .ok (.istore_n 1, 1) := by decide +kernel
theorem dX0_dropOldest_2 : decode cX0_dropOldest 2 = .ok (.iconst 1, 1) := by decide +kernel
theorem dX0_dropOldest_3 : decode cX0_dropOldest 3 = .ok (.istore_n 2, 1) := by decide +kernel
theorem dX0_dropOldest_4 : decode cX0_dropOldest 4 = .ok (.iload_n 2, 1) := by decide +kernel
theorem dX0_dropOldest_5 : decode cX0_dropOldest 5 = .ok (.aload_n 0, 1) := by decide +kernel
theorem dX0_dropOldest_6 : decode cX0_dropOldest 6 = .ok (.getfield 22, 3) := by decide +kernel
theorem dX0_dropOldest_9 : decode cX0_dropOldest 9 = .ok (.if_icmp .ge 32, 3) := by decide +kernel
theorem dX0_dropOldest_12 : decode cX0_dropOldest 12 = .ok (.aload_n 0, 1) := by decide +kernel
theorem dX0_dropOldest_13 : decode cX0_dropOldest 13 = .ok (.getfield 11, 3) := by decide +kernel
theorem dX0_dropOldest_16 : decode cX0_dropOldest 16 = .ok (.iload_n 2, 1) := by decide +kernel
theorem dX0_dropOldest_17 : decode cX0_dropOldest 17 = .ok (.aaload, 1) := by decide +kernel
theorem dX0_dropOldest_18 : decode cX0_dropOldest 18 = .ok (.getfield 66, 3) := by decide +kernel
theorem dX0_dropOldest_21 : decode cX0_dropOldest 21 = .ok (.aload_n 0, 1) := by decide +kernel
theorem dX0_dropOldest_22 : decode cX0_dropOldest 22 = .ok (.getfield 11, 3) := by decide +kernel
theorem dX0_dropOldest_25 : decode cX0_dropOldest 25 = .ok (.iload_n 1, 1) := by decide +kernel
theorem dX0_dropOldest_26 : decode cX0_dropOldest 26 = .ok (.aaload, 1) := by decide +kernel
theorem dX0_dropOldest_27 : decode cX0_dropOldest 27 = .ok (.getfield 66, 3) := by decide +kernel
theorem dX0_dropOldest_30 : decode cX0_dropOldest 30 = .ok (.if_icmp .ge 5, 3) := by decide +kernel
theorem dX0_dropOldest_33 : decode cX0_dropOldest 33 = .ok (.iload_n 2, 1) := by decide +kernel
theorem dX0_dropOldest_34 : decode cX0_dropOldest 34 = .ok (.istore_n 1, 1) := by decide +kernel
theorem dX0_dropOldest_35 : decode cX0_dropOldest 35 = .ok (.iinc 2 1, 3) := by decide +kernel
theorem dX0_dropOldest_38 : decode cX0_dropOldest 38 = .ok (.goto (-34), 3) := by decide +kernel
theorem dX0_dropOldest_41 : decode cX0_dropOldest 41 = .ok (.aload_n 0, 1) := by decide +kernel
theorem dX0_dropOldest_42 : decode cX0_dropOldest 42 = .ok (.iload_n 1, 1) := by decide +kernel
theorem dX0_dropOldest_43 : decode cX0_dropOldest 43 = .ok (.invokevirtual 56, 3) := by decide +kernel
theorem dX0_dropOldest_46 : decode cX0_dropOldest 46 = .ok (.aload_n 0, 1) := by decide +kernel
theorem dX0_dropOldest_47 : decode cX0_dropOldest 47 = .ok (.dup, 1) := by decide +kernel
theorem dX0_dropOldest_48 : decode cX0_dropOldest 48 = .ok (.getfield 69, 3) := by decide +kernel
theorem dX0_dropOldest_51 : decode cX0_dropOldest 51 = .ok (.iconst 1, 1) := by decide +kernel
theorem dX0_dropOldest_52 : decode cX0_dropOldest 52 = .ok (.iadd, 1) := by decide +kernel
theorem dX0_dropOldest_53 : decode cX0_dropOldest 53 = .ok (.putfield 69, 3) := by decide +kernel
theorem dX0_dropOldest_56 : decode cX0_dropOldest 56 = .ok (.return_, 1) := by decide +kernel
theorem dX0_empty_0 : decode cX0_empty 0 = .ok (.aload_n 0, 1) := by decide +kernel
theorem dX0_empty_1 : decode cX0_empty 1 = .ok (.iconst 0, 1) := by decide +kernel
theorem dX0_empty_2 : decode cX0_empty 2 = .ok (.putfield 22, 3) := by decide +kernel
theorem dX0_empty_5 : decode cX0_empty 5 = .ok (.return_, 1) := by decide +kernel
theorem dX0_find_0 : decode cX0_find 0 = .ok (.iconst 0, 1) := by decide +kernel
theorem dX0_find_1 : decode cX0_find 1 = .ok (.istore_n 3, 1) := by decide +kernel
theorem dX0_find_2 : decode cX0_find 2 = .ok (.iload_n 3, 1) := by decide +kernel
theorem dX0_find_3 : decode cX0_find 3 = .ok (.aload_n 0, 1) := by decide +kernel
theorem dX0_find_4 : decode cX0_find 4 = .ok (.getfield 22, 3) := by decide +kernel
theorem dX0_find_7 : decode cX0_find 7 = .ok (.if_icmp .ge 38, 3) := by decide +kernel
theorem dX0_find_10 : decode cX0_find 10 = .ok (.aload_n 0, 1) := by decide +kernel
theorem dX0_find_11 : decode cX0_find 11 = .ok (.getfield 11, 3) := by decide +kernel
theorem dX0_find_14 : decode cX0_find 14 = .ok (.iload_n 3, 1) := by decide +kernel
theorem dX0_find_15 : decode cX0_find 15 = .ok (.aaload, 1) := by decide +kernel
theorem dX0_find_16 : decode cX0_find 16 = .ok (.astore 4, 2) := by decide +kernel
theorem dX0_find_18 : decode cX0_find 18 = .ok (.aload 4, 2) := by decide +kernel
theorem dX0_find_20 : decode cX0_find 20 = .ok (.getfield 25, 3) := by decide +kernel
theorem dX0_find_23 : decode cX0_find 23 = .ok (.iload_n 1, 1) := by decide +kernel
theorem dX0_find_24 : decode cX0_find 24 = .ok (.if_icmp .ne 15, 3) := by decide +kernel
theorem dX0_find_27 : decode cX0_find 27 = .ok (.aload 4, 2) := by decide +kernel
theorem dX0_find_29 : decode cX0_find 29 = .ok (.getfield 28, 3) := by decide +kernel
theorem dX0_find_32 : decode cX0_find 32 = .ok (.iload_n 2, 1) := by decide +kernel
theorem dX0_find_33 : decode cX0_find 33 = .ok (.if_icmp .ne 6, 3) := by decide +kernel
theorem dX0_find_36 : decode cX0_find 36 = .ok (.aload 4, 2) := by decide +kernel
theorem dX0_find_38 : decode cX0_find 38 = .ok (.areturn, 1) := by decide +kernel
theorem dX0_find_39 : decode cX0_find 39 = .ok (.iinc 3 1, 3) := by decide +kernel
theorem dX0_find_42 : decode cX0_find 42 = .ok (.goto (-40), 3) := by decide +kernel
theorem dX0_find_45 : decode cX0_find 45 = .ok (.aconst_null, 1) := by decide +kernel
theorem dX0_find_46 : decode cX0_find 46 = .ok (.areturn, 1) := by decide +kernel
theorem dX0_hit_0 : decode cX0_hit 0 = .ok (.aload_n 0, 1) := by decide +kernel
theorem dX0_hit_1 : decode cX0_hit 1 = .ok (.dup, 1) := by decide +kernel
theorem dX0_hit_2 : decode cX0_hit 2 = .ok (.getfield 31, 3) := by decide +kernel
theorem dX0_hit_5 : decode cX0_hit 5 = .ok (.iconst 1, 1) := by decide +kernel
theorem dX0_hit_6 : decode cX0_hit 6 = .ok (.iadd, 1) := by decide +kernel
theorem dX0_hit_7 : decode cX0_hit 7 = .ok (.putfield 31, 3) := by decide +kernel
theorem dX0_hit_10 : decode cX0_hit 10 = .ok (.aload_n 0, 1) := by decide +kernel
theorem dX0_hit_11 : decode cX0_hit 11 = .ok (.aload_n 1, 1) := by decide +kernel
theorem dX0_hit_12 : decode cX0_hit 12 = .ok (.invokevirtual 34, 3) := by decide +kernel
theorem dX0_hit_15 : decode cX0_hit 15 = .ok (.return_, 1) := by decide +kernel
theorem dX0_init_0 : decode cX0_init 0 = .ok (.aload_n 0, 1) := by decide +kernel
theorem dX0_init_1 : decode cX0_init 1 = .ok (.invokespecial 3, 3) := by decide +kernel
theorem dX0_init_4 : decode cX0_init 4 = .ok (.aload_n 0, 1) := by decide +kernel
theorem dX0_init_5 : decode cX0_init 5 = .ok (.bipush 48, 2) := by decide +kernel
theorem dX0_init_7 : decode cX0_init 7 = .ok (.anewarray 9, 3) := by decide +kernel
theorem dX0_init_10 : decode cX0_init 10 = .ok (.putfield 11, 3) := by decide +kernel
theorem dX0_init_13 : decode cX0_init 13 = .ok (.aload_n 0, 1) := by decide +kernel
theorem dX0_init_14 : decode cX0_init 14 = .ok (.bipush 16, 2) := by decide +kernel
theorem dX0_init_16 : decode cX0_init 16 = .ok (.putfield 17, 3) := by decide +kernel
theorem dX0_init_19 : decode cX0_init 19 = .ok (.iconst 0, 1) := by decide +kernel
theorem dX0_init_20 : decode cX0_init 20 = .ok (.istore_n 1, 1) := by decide +kernel
theorem dX0_init_21 : decode cX0_init 21 = .ok (.iload_n 1, 1) := by decide +kernel
theorem dX0_init_22 : decode cX0_init 22 = .ok (.bipush 48, 2) := by decide +kernel
theorem dX0_init_24 : decode cX0_init 24 = .ok (.if_icmp .ge 22, 3) := by decide +kernel
theorem dX0_init_27 : decode cX0_init 27 = .ok (.aload_n 0, 1) := by decide +kernel
theorem dX0_init_28 : decode cX0_init 28 = .ok (.getfield 11, 3) := by decide +kernel
theorem dX0_init_31 : decode cX0_init 31 = .ok (.iload_n 1, 1) := by decide +kernel
theorem dX0_init_32 : decode cX0_init 32 = .ok (.new 9, 3) := by decide +kernel
theorem dX0_init_35 : decode cX0_init 35 = .ok (.dup, 1) := by decide +kernel
theorem dX0_init_36 : decode cX0_init 36 = .ok (.invokespecial 21, 3) := by decide +kernel
theorem dX0_init_39 : decode cX0_init 39 = .ok (.aastore, 1) := by decide +kernel
theorem dX0_init_40 : decode cX0_init 40 = .ok (.iinc 1 1, 3) := by decide +kernel
theorem dX0_init_43 : decode cX0_init 43 = .ok (.goto (-22), 3) := by decide +kernel
theorem dX0_init_46 : decode cX0_init 46 = .ok (.return_, 1) := by decide +kernel
theorem dX0_makeVoid_0 : decode cX0_makeVoid 0 = .ok (.aload_n 0, 1) := by decide +kernel
theorem dX0_makeVoid_1 : decode cX0_makeVoid 1 = .ok (.iload_n 1, 1) := by decide +kernel
theorem dX0_makeVoid_2 : decode cX0_makeVoid 2 = .ok (.iload_n 2, 1) := by decide +kernel
theorem dX0_makeVoid_3 : decode cX0_makeVoid 3 = .ok (.iload_n 3, 1) := by decide +kernel
theorem dX0_makeVoid_4 : decode cX0_makeVoid 4 = .ok (.iconst 1, 1) := by decide +kernel
theorem dX0_makeVoid_5 : decode cX0_makeVoid 5 = .ok (.iconst 0, 1) := by decide +kernel
theorem dX0_makeVoid_6 : decode cX0_makeVoid 6 = .ok (.invokevirtual 44, 3) := by decide +kernel
theorem dX0_makeVoid_9 : decode cX0_makeVoid 9 = .ok (.ireturn, 1) := by decide +kernel
theorem dX0_makeVoidInOne_0 : decode cX0_makeVoidInOne 0 = .ok (.aload_n 0, 1) := by decide +kernel
theorem dX0_makeVoidInOne_1 : decode cX0_makeVoidInOne 1 = .ok (.getfield 22, 3) := by decide +kernel
theorem dX0_makeVoidInOne_4 : decode cX0_makeVoidInOne 4 = .ok (.istore 6, 2) := by decide +kernel
theorem dX0_makeVoidInOne_6 : decode cX0_makeVoidInOne 6 = .ok (.aload_n 0, 1) := by decide +kernel
theorem dX0_makeVoidInOne_7 : decode cX0_makeVoidInOne 7 = .ok (.getfield 22, 3) := by decide +kernel
theorem dX0_makeVoidInOne_10 : decode cX0_makeVoidInOne 10 = .ok (.iconst 1, 1) := by decide +kernel
theorem dX0_makeVoidInOne_11 : decode cX0_makeVoidInOne 11 = .ok (.isub, 1) := by decide +kernel
theorem dX0_makeVoidInOne_12 : decode cX0_makeVoidInOne 12 = .ok (.istore 7, 2) := by decide +kernel
theorem dX0_makeVoidInOne_14 : decode cX0_makeVoidInOne 14 = .ok (.iload 7, 2) := by decide +kernel
theorem dX0_makeVoidInOne_16 : decode cX0_makeVoidInOne 16 = .ok (.ifCond .lt 69, 3) := by decide +kernel
theorem dX0_makeVoidInOne_19 : decode cX0_makeVoidInOne 19 = .ok (.aload_n 0, 1) := by decide +kernel
theorem dX0_makeVoidInOne_20 : decode cX0_makeVoidInOne 20 = .ok (.getfield 11, 3) := by decide +kernel
theorem dX0_makeVoidInOne_23 : decode cX0_makeVoidInOne 23 = .ok (.iload 7, 2) := by decide +kernel
theorem dX0_makeVoidInOne_25 : decode cX0_makeVoidInOne 25 = .ok (.aaload, 1) := by decide +kernel
theorem dX0_makeVoidInOne_26 : decode cX0_makeVoidInOne 26 = .ok (.astore 8, 2) := by decide +kernel
theorem dX0_makeVoidInOne_28 : decode cX0_makeVoidInOne 28 = .ok (.aload 8, 2) := by decide +kernel
theorem dX0_makeVoidInOne_30 : decode cX0_makeVoidInOne 30 = .ok (.getfield 28, 3) := by decide +kernel
theorem dX0_makeVoidInOne_33 : decode cX0_makeVoidInOne 33 = .ok (.iload_n 2, 1) := by decide +kernel
theorem dX0_makeVoidInOne_34 : decode cX0_makeVoidInOne 34 = .ok (.iload_n 3, 1) := by decide +kernel
theorem dX0_makeVoidInOne_35 : decode cX0_makeVoidInOne 35 = .ok (.invokestatic 48, 3) := by decide +kernel
theorem dX0_makeVoidInOne_38 : decode cX0_makeVoidInOne 38 = .ok (.istore 9, 2) := by decide +kernel
theorem dX0_makeVoidInOne_40 : decode cX0_makeVoidInOne 40 = .ok (.aload 8, 2) := by decide +kernel
theorem dX0_makeVoidInOne_42 : decode cX0_makeVoidInOne 42 = .ok (.getfield 28, 3) := by decide +kernel
theorem dX0_makeVoidInOne_45 : decode cX0_makeVoidInOne 45 = .ok (.iload 4, 2) := by decide +kernel
theorem dX0_makeVoidInOne_47 : decode cX0_makeVoidInOne 47 = .ok (.iload 5, 2) := by decide +kernel
theorem dX0_makeVoidInOne_49 : decode cX0_makeVoidInOne 49 = .ok (.invokestatic 48, 3) := by decide +kernel
theorem dX0_makeVoidInOne_52 : decode cX0_makeVoidInOne 52 = .ok (.istore 10, 2) := by decide +kernel
theorem dX0_makeVoidInOne_54 : decode cX0_makeVoidInOne 54 = .ok (.iload 9, 2) := by decide +kernel
theorem dX0_makeVoidInOne_56 : decode cX0_makeVoidInOne 56 = .ok (.iload 10, 2) := by decide +kernel
theorem dX0_makeVoidInOne_58 : decode cX0_makeVoidInOne 58 = .ok (.if_icmp .eq 21, 3) := by decide +kernel
theorem dX0_makeVoidInOne_61 : decode cX0_makeVoidInOne 61 = .ok (.iload_n 1, 1) := by decide +kernel
theorem dX0_makeVoidInOne_62 : decode cX0_makeVoidInOne 62 = .ok (.aload 8, 2) := by decide +kernel
theorem dX0_makeVoidInOne_64 : decode cX0_makeVoidInOne 64 = .ok (.getfield 25, 3) := by decide +kernel
theorem dX0_makeVoidInOne_67 : decode cX0_makeVoidInOne 67 = .ok (.invokestatic 52, 3) := by decide +kernel
theorem dX0_makeVoidInOne_70 : decode cX0_makeVoidInOne 70 = .ok (.ifCond .eq 9, 3) := by decide +kernel
theorem dX0_makeVoidInOne_73 : decode cX0_makeVoidInOne 73 = .ok (.aload_n 0, 1) := by decide +kernel
theorem dX0_makeVoidInOne_74 : decode cX0_makeVoidInOne 74 = .ok (.iload 7, 2) := by decide +kernel
theorem dX0_makeVoidInOne_76 : decode cX0_makeVoidInOne 76 = .ok (.invokevirtual 56, 3) := by decide +kernel
theorem dX0_makeVoidInOne_79 : decode cX0_makeVoidInOne 79 = .ok (.iinc 7 (-1), 3) := by decide +kernel
theorem dX0_makeVoidInOne_82 : decode cX0_makeVoidInOne 82 = .ok (.goto (-68), 3) := by decide +kernel
theorem dX0_makeVoidInOne_85 : decode cX0_makeVoidInOne 85 = .ok (.aload_n 0, 1) := by decide +kernel
theorem dX0_makeVoidInOne_86 : decode cX0_makeVoidInOne 86 = .ok (.dup, 1) := by decide +kernel
theorem dX0_makeVoidInOne_87 : decode cX0_makeVoidInOne 87 = .ok (.getfield 60, 3) := by decide +kernel
theorem dX0_makeVoidInOne_90 : decode cX0_makeVoidInOne 90 = .ok (.iload 6, 2) := by decide +kernel
theorem dX0_makeVoidInOne_92 : decode cX0_makeVoidInOne 92 = .ok (.aload_n 0, 1) := by decide +kernel
theorem dX0_makeVoidInOne_93 : decode cX0_makeVoidInOne 93 = .ok (.getfield 22, 3) := by decide +kernel
theorem dX0_makeVoidInOne_96 : decode cX0_makeVoidInOne 96 = .ok (.isub, 1) := by decide +kernel
theorem dX0_makeVoidInOne_97 : decode cX0_makeVoidInOne 97 = .ok (.iadd, 1) := by decide +kernel
theorem dX0_makeVoidInOne_98 : decode cX0_makeVoidInOne 98 = .ok (.putfield 60, 3) := by decide +kernel
theorem dX0_makeVoidInOne_101 : decode cX0_makeVoidInOne 101 = .ok (.iload 6, 2) := by decide +kernel
theorem dX0_makeVoidInOne_103 : decode cX0_makeVoidInOne 103 = .ok (.aload_n 0, 1) := by decide +kernel
theorem dX0_makeVoidInOne_104 : decode cX0_makeVoidInOne 104 = .ok (.getfield 22, 3) := by decide +kernel
theorem dX0_makeVoidInOne_107 : decode cX0_makeVoidInOne 107 = .ok (.isub, 1) := by decide +kernel
theorem dX0_makeVoidInOne_108 : decode cX0_makeVoidInOne 108 = .ok (.ireturn, 1) := by decide +kernel
theorem dX0_remove_0 : decode cX0_remove 0 = .ok (.iload_n 1, 1) := by decide +kernel
theorem dX0_remove_1 : decode cX0_remove 1 = .ok (.iconst 0, 1) := by decide +kernel
theorem dX0_remove_2 : decode cX0_remove 2 = .ok (.aload_n 0, 1) := by decide +kernel
theorem dX0_remove_3 : decode cX0_remove 3 = .ok (.getfield 22, 3) := by decide +kernel
theorem dX0_remove_6 : decode cX0_remove 6 = .ok (.iconst 1, 1) := by decide +kernel
theorem dX0_remove_7 : decode cX0_remove 7 = .ok (.isub, 1) := by decide +kernel
theorem dX0_remove_8 : decode cX0_remove 8 = .ok (.invokestatic 48, 3) := by decide +kernel
theorem dX0_remove_11 : decode cX0_remove 11 = .ok (.ifCond .eq 45, 3) := by decide +kernel
theorem dX0_remove_14 : decode cX0_remove 14 = .ok (.aload_n 0, 1) := by decide +kernel
theorem dX0_remove_15 : decode cX0_remove 15 = .ok (.dup, 1) := by decide +kernel
theorem dX0_remove_16 : decode cX0_remove 16 = .ok (.getfield 22, 3) := by decide +kernel
theorem dX0_remove_19 : decode cX0_remove 19 = .ok (.iconst 1, 1) := by decide +kernel
theorem dX0_remove_20 : decode cX0_remove 20 = .ok (.isub, 1) := by decide +kernel
theorem dX0_remove_21 : decode cX0_remove 21 = .ok (.putfield 22, 3) := by decide +kernel
theorem dX0_remove_24 : decode cX0_remove 24 = .ok (.aload_n 0, 1) := by decide +kernel
theorem dX0_remove_25 : decode cX0_remove 25 = .ok (.getfield 11, 3) := by decide +kernel
theorem dX0_remove_28 : decode cX0_remove 28 = .ok (.iload_n 1, 1) := by decide +kernel
theorem dX0_remove_29 : decode cX0_remove 29 = .ok (.aaload, 1) := by decide +kernel
theorem dX0_remove_30 : decode cX0_remove 30 = .ok (.astore_n 2, 1) := by decide +kernel
theorem dX0_remove_31 : decode cX0_remove 31 = .ok (.aload_n 0, 1) := by decide +kernel
theorem dX0_remove_32 : decode cX0_remove 32 = .ok (.getfield 11, 3) := by decide +kernel
theorem dX0_remove_35 : decode cX0_remove 35 = .ok (.iload_n 1, 1) := by decide +kernel
theorem dX0_remove_36 : decode cX0_remove 36 = .ok (.aload_n 0, 1) := by decide +kernel
theorem dX0_remove_37 : decode cX0_remove 37 = .ok (.getfield 11, 3) := by decide +kernel
theorem dX0_remove_40 : decode cX0_remove 40 = .ok (.aload_n 0, 1) := by decide +kernel
theorem dX0_remove_41 : decode cX0_remove 41 = .ok (.getfield 22, 3) := by decide +kernel
theorem dX0_remove_44 : decode cX0_remove 44 = .ok (.aaload, 1) := by decide +kernel
theorem dX0_remove_45 : decode cX0_remove 45 = .ok (.aastore, 1) := by decide +kernel
theorem dX0_remove_46 : decode cX0_remove 46 = .ok (.aload_n 0, 1) := by decide +kernel
theorem dX0_remove_47 : decode cX0_remove 47 = .ok (.getfield 11, 3) := by decide +kernel
theorem dX0_remove_50 : decode cX0_remove 50 = .ok (.aload_n 0, 1) := by decide +kernel
theorem dX0_remove_51 : decode cX0_remove 51 = .ok (.getfield 22, 3) := by decide +kernel
theorem dX0_remove_54 : decode cX0_remove 54 = .ok (.aload_n 2, 1) := by decide +kernel
theorem dX0_remove_55 : decode cX0_remove 55 = .ok (.aastore, 1) := by decide +kernel
theorem dX0_remove_56 : decode cX0_remove 56 = .ok (.return_, 1) := by decide +kernel
theorem dX0_touch_0 : decode cX0_touch 0 = .ok (.aload_n 0, 1) := by decide +kernel
theorem dX0_touch_1 : decode cX0_touch 1 = .ok (.dup, 1) := by decide +kernel
theorem dX0_touch_2 : decode cX0_touch 2 = .ok (.getfield 63, 3) := by decide +kernel
theorem dX0_touch_5 : decode cX0_touch 5 = .ok (.iconst 1, 1) := by decide +kernel
theorem dX0_touch_6 : decode cX0_touch 6 = .ok (.iadd, 1) := by decide +kernel
theorem dX0_touch_7 : decode cX0_touch 7 = .ok (.putfield 63, 3) := by decide +kernel
theorem dX0_touch_10 : decode cX0_touch 10 = .ok (.aload_n 1, 1) := by decide +kernel
theorem dX0_touch_11 : decode cX0_touch 11 = .ok (.aload_n 0, 1) := by decide +kernel
theorem dX0_touch_12 : decode cX0_touch 12 = .ok (.getfield 63, 3) := by decide +kernel
theorem dX0_touch_15 : decode cX0_touch 15 = .ok (.putfield 66, 3) := by decide +kernel
theorem dX0_touch_18 : decode cX0_touch 18 = .ok (.return_, 1) := by decide +kernel
theorem dX1_add_0 : decode cX1_add 0 = .ok (.aload_n 0, 1) := by decide +kernel
theorem dX1_add_1 : decode cX1_add 1 = .ok (.getfield 28, 3) := by decide +kernel
theorem dX1_add_4 : decode cX1_add 4 = .ok (.bipush 12, 2) := by decide +kernel
theorem dX1_add_6 : decode cX1_add 6 = .ok (.if_icmp .lt 7, 3) := by decide +kernel
theorem dX1_add_9 : decode cX1_add 9 = .ok (.sipush (-1004), 3) := by decide +kernel
theorem dX1_add_12 : decode cX1_add 12 = .ok (.ireturn, 1) := by decide +kernel
theorem dX1_add_13 : decode cX1_add 13 = .ok (.aload_n 0, 1) := by decide +kernel
theorem dX1_add_14 : decode cX1_add 14 = .ok (.getfield 28, 3) := by decide +kernel
theorem dX1_add_17 : decode cX1_add 17 = .ok (.istore_n 2, 1) := by decide +kernel
theorem dX1_add_18 : decode cX1_add 18 = .ok (.aload_n 0, 1) := by decide +kernel
theorem dX1_add_19 : decode cX1_add 19 = .ok (.getfield 11, 3) := by decide +kernel
theorem dX1_add_22 : decode cX1_add 22 = .ok (.iload_n 2, 1) := by decide +kernel
theorem dX1_add_23 : decode cX1_add 23 = .ok (.aaload, 1) := by decide +kernel
theorem dX1_add_24 : decode cX1_add 24 = .ok (.iload_n 1, 1) := by decide +kernel
theorem dX1_add_25 : decode cX1_add 25 = .ok (.invokevirtual 52, 3) := by decide +kernel
theorem dX1_add_28 : decode cX1_add 28 = .ok (.aload_n 0, 1) := by decide +kernel
theorem dX1_add_29 : decode cX1_add 29 = .ok (.dup, 1) := by decide +kernel
theorem dX1_add_30 : decode cX1_add 30 = .ok (.getfield 28, 3) := by decide +kernel
theorem dX1_add_33 : decode cX1_add 33 = .ok (.iconst 1, 1) := by decide +kernel
theorem dX1_add_34 : decode cX1_add 34 = .ok (.iadd, 1) := by decide +kernel
theorem dX1_add_35 : decode cX1_add 35 = .ok (.putfield 28, 3) := by decide +kernel
theorem dX1_add_38 : decode cX1_add 38 = .ok (.aload_n 0, 1) := by decide +kernel
theorem dX1_add_39 : decode cX1_add 39 = .ok (.invokevirtual 56, 3) := by decide +kernel
theorem dX1_add_42 : decode cX1_add 42 = .ok (.iload_n 2, 1) := by decide +kernel
theorem dX1_add_43 : decode cX1_add 43 = .ok (.ireturn, 1) := by decide +kernel
theorem dX1_addAll_0 : decode cX1_addAll 0 = .ok (.iconst 0, 1) := by decide +kernel
theorem dX1_addAll_1 : decode cX1_addAll 1 = .ok (.istore_n 3, 1) := by decide +kernel
theorem dX1_addAll_2 : decode cX1_addAll 2 = .ok (.iload_n 3, 1) := by decide +kernel
theorem dX1_addAll_3 : decode cX1_addAll 3 = .ok (.iload_n 2, 1) := by decide +kernel
theorem dX1_addAll_4 : decode cX1_addAll 4 = .ok (.if_icmp .ge 49, 3) := by decide +kernel
theorem dX1_addAll_7 : decode cX1_addAll 7 = .ok (.iload_n 3, 1) := by decide +kernel
theorem dX1_addAll_8 : decode cX1_addAll 8 = .ok (.aload_n 1, 1) := by decide +kernel
theorem dX1_addAll_9 : decode cX1_addAll 9 = .ok (.arraylength, 1) := by decide +kernel
theorem dX1_addAll_10 : decode cX1_addAll 10 = .ok (.if_icmp .ge 43, 3) := by decide +kernel
theorem dX1_addAll_13 : decode cX1_addAll 13 = .ok (.aload_n 0, 1) := by decide +kernel
theorem dX1_addAll_14 : decode cX1_addAll 14 = .ok (.getfield 28, 3) := by decide +kernel
theorem dX1_addAll_17 : decode cX1_addAll 17 = .ok (.bipush 12, 2) := by decide +kernel
theorem dX1_addAll_19 : decode cX1_addAll 19 = .ok (.if_icmp .ge 34, 3) := by decide +kernel
theorem dX1_addAll_22 : decode cX1_addAll 22 = .ok (.aload_n 0, 1) := by decide +kernel
theorem dX1_addAll_23 : decode cX1_addAll 23 = .ok (.getfield 11, 3) := by decide +kernel
theorem dX1_addAll_26 : decode cX1_addAll 26 = .ok (.aload_n 0, 1) := by decide +kernel
theorem dX1_addAll_27 : decode cX1_addAll 27 = .ok (.getfield 28, 3) := by decide +kernel
theorem dX1_addAll_30 : decode cX1_addAll 30 = .ok (.aaload, 1) := by decide +kernel
theorem dX1_addAll_31 : decode cX1_addAll 31 = .ok (.aload_n 1, 1) := by decide +kernel
theorem dX1_addAll_32 : decode cX1_addAll 32 = .ok (.iload_n 3, 1) := by decide +kernel
theorem dX1_addAll_33 : decode cX1_addAll 33 = .ok (.aaload, 1) := by decide +kernel
theorem dX1_addAll_34 : decode cX1_addAll 34 = .ok (.invokevirtual 69, 3) := by decide +kernel
theorem dX1_addAll_37 : decode cX1_addAll 37 = .ok (.aload_n 0, 1) := by decide +kernel
theorem dX1_addAll_38 : decode cX1_addAll 38 = .ok (.dup, 1) := by decide +kernel
theorem dX1_addAll_39 : decode cX1_addAll 39 = .ok (.getfield 28, 3) := by decide +kernel
theorem dX1_addAll_42 : decode cX1_addAll 42 = .ok (.iconst 1, 1) := by decide +kernel
theorem dX1_addAll_43 : decode cX1_addAll 43 = .ok (.iadd, 1) := by decide +kernel
theorem dX1_addAll_44 : decode cX1_addAll 44 = .ok (.putfield 28, 3) := by decide +kernel
theorem dX1_addAll_47 : decode cX1_addAll 47 = .ok (.iinc 3 1, 3) := by decide +kernel
theorem dX1_addAll_50 : decode cX1_addAll 50 = .ok (.goto (-48), 3) := by decide +kernel
theorem dX1_addAll_53 : decode cX1_addAll 53 = .ok (.aload_n 0, 1) := by decide +kernel
theorem dX1_addAll_54 : decode cX1_addAll 54 = .ok (.invokevirtual 56, 3) := by decide +kernel
theorem dX1_addAll_57 : decode cX1_addAll 57 = .ok (.return_, 1) := by decide +kernel
theorem dX1_arrange_0 : decode cX1_arrange 0 = .ok (.iconst 0, 1) := by decide +kernel
theorem dX1_arrange_1 : decode cX1_arrange 1 = .ok (.istore_n 1, 1) := by decide +kernel
theorem dX1_arrange_2 : decode cX1_arrange 2 = .ok (.iconst 0, 1) := by decide +kernel
theorem dX1_arrange_3 : decode cX1_arrange 3 = .ok (.istore_n 2, 1) := by decide +kernel
theorem dX1_arrange_4 : decode cX1_arrange 4 = .ok (.iload_n 2, 1) := by decide +kernel
theorem dX1_arrange_5 : decode cX1_arrange 5 = .ok (.aload_n 0, 1) := by decide +kernel
theorem dX1_arrange_6 : decode cX1_arrange 6 = .ok (.getfield 28, 3) := by decide +kernel
theorem dX1_arrange_9 : decode cX1_arrange 9 = .ok (.if_icmp .ge 51, 3) := by decide +kernel
theorem dX1_arrange_12 : decode cX1_arrange 12 = .ok (.aload_n 0, 1) := by decide +kernel
theorem dX1_arrange_13 : decode cX1_arrange 13 = .ok (.iload_n 1, 1) := by decide +kernel
theorem dX1_arrange_14 : decode cX1_arrange 14 = .ok (.invokevirtual 77, 3) := by decide +kernel
theorem dX1_arrange_17 : decode cX1_arrange 17 = .ok (.istore_n 3, 1) := by decide +kernel
theorem dX1_arrange_18 : decode cX1_arrange 18 = .ok (.aload_n 0, 1) := by decide +kernel
theorem dX1_arrange_19 : decode cX1_arrange 19 = .ok (.getfield 17, 3) := by decide +kernel
theorem dX1_arrange_22 : decode cX1_arrange 22 = .ok (.iload_n 2, 1) := by decide +kernel
theorem dX1_arrange_23 : decode cX1_arrange 23 = .ok (.iload_n 3, 1) := by decide +kernel
theorem dX1_arrange_24 : decode cX1_arrange 24 = .ok (.iastore, 1) := by decide +kernel
theorem dX1_arrange_25 : decode cX1_arrange 25 = .ok (.aload_n 0, 1) := by decide +kernel
theorem dX1_arrange_26 : decode cX1_arrange 26 = .ok (.getfield 21, 3) := by decide +kernel
theorem dX1_arrange_29 : decode cX1_arrange 29 = .ok (.iload_n 3, 1) := by decide +kernel
theorem dX1_arrange_30 : decode cX1_arrange 30 = .ok (.iload_n 2, 1) := by decide +kernel
theorem dX1_arrange_31 : decode cX1_arrange 31 = .ok (.iastore, 1) := by decide +kernel
theorem dX1_arrange_32 : decode cX1_arrange 32 = .ok (.aload_n 0, 1) := by decide +kernel
theorem dX1_arrange_33 : decode cX1_arrange 33 = .ok (.getfield 24, 3) := by decide +kernel
theorem dX1_arrange_36 : decode cX1_arrange 36 = .ok (.iload_n 3, 1) := by decide +kernel
theorem dX1_arrange_37 : decode cX1_arrange 37 = .ok (.aload_n 0, 1) := by decide +kernel
theorem dX1_arrange_38 : decode cX1_arrange 38 = .ok (.aload_n 0, 1) := by decide +kernel
theorem dX1_arrange_39 : decode cX1_arrange 39 = .ok (.getfield 11, 3) := by decide +kernel
theorem dX1_arrange_42 : decode cX1_arrange 42 = .ok (.iload_n 3, 1) := by decide +kernel
theorem dX1_arrange_43 : decode cX1_arrange 43 = .ok (.aaload, 1) := by decide +kernel
theorem dX1_arrange_44 : decode cX1_arrange 44 = .ok (.invokevirtual 80, 3) := by decide +kernel
theorem dX1_arrange_47 : decode cX1_arrange 47 = .ok (.iastore, 1) := by decide +kernel
theorem dX1_arrange_48 : decode cX1_arrange 48 = .ok (.iload_n 1, 1) := by decide +kernel
theorem dX1_arrange_49 : decode cX1_arrange 49 = .ok (.iconst 1, 1) := by decide +kernel
theorem dX1_arrange_50 : decode cX1_arrange 50 = .ok (.iload_n 3, 1) := by decide +kernel
theorem dX1_arrange_51 : decode cX1_arrange 51 = .ok (.ishl, 1) := by decide +kernel
theorem dX1_arrange_52 : decode cX1_arrange 52 = .ok (.ior, 1) := by decide +kernel
theorem dX1_arrange_53 : decode cX1_arrange 53 = .ok (.istore_n 1, 1) := by decide +kernel
theorem dX1_arrange_54 : decode cX1_arrange 54 = .ok (.iinc 2 1, 3) := by decide +kernel
theorem dX1_arrange_57 : decode cX1_arrange 57 = .ok (.goto (-53), 3) := by decide +kernel
theorem dX1_arrange_60 : decode cX1_arrange 60 = .ok (.return_, 1) := by decide +kernel
theorem dX1_copyFrom_0 : decode cX1_copyFrom 0 = .ok (.aload_n 0, 1) := by decide +kernel
theorem dX1_copyFrom_1 : decode cX1_copyFrom 1 = .ok (.iconst 0, 1) := by decide +kernel
theorem dX1_copyFrom_2 : decode cX1_copyFrom 2 = .ok (.putfield 28, 3) := by decide +kernel
theorem dX1_copyFrom_5 : decode cX1_copyFrom 5 = .ok (.aload_n 0, 1) := by decide +kernel
theorem dX1_copyFrom_6 : decode cX1_copyFrom 6 = .ok (.aload_n 1, 1) := by decide +kernel
theorem dX1_copyFrom_7 : decode cX1_copyFrom 7 = .ok (.getfield 11, 3) := by decide +kernel
theorem dX1_copyFrom_10 : decode cX1_copyFrom 10 = .ok (.aload_n 1, 1) := by decide +kernel
theorem dX1_copyFrom_11 : decode cX1_copyFrom 11 = .ok (.getfield 28, 3) := by decide +kernel
theorem dX1_copyFrom_14 : decode cX1_copyFrom 14 = .ok (.invokevirtual 65, 3) := by decide +kernel
theorem dX1_copyFrom_17 : decode cX1_copyFrom 17 = .ok (.return_, 1) := by decide +kernel
theorem dX1_dependents_0 : decode cX1_dependents 0 = .ok (.iconst 1, 1) := by decide +kernel
theorem dX1_dependents_1 : decode cX1_dependents 1 = .ok (.iload_n 1, 1) := by decide +kernel
theorem dX1_dependents_2 : decode cX1_dependents 2 = .ok (.ishl, 1) := by decide +kernel
theorem dX1_dependents_3 : decode cX1_dependents 3 = .ok (.istore_n 2, 1) := by decide +kernel
theorem dX1_dependents_4 : decode cX1_dependents 4 = .ok (.iconst 0, 1) := by decide +kernel
theorem dX1_dependents_5 : decode cX1_dependents 5 = .ok (.istore_n 3, 1) := by decide +kernel
theorem dX1_dependents_6 : decode cX1_dependents 6 = .ok (.iload_n 3, 1) := by decide +kernel
theorem dX1_dependents_7 : decode cX1_dependents 7 = .ok (.aload_n 0, 1) := by decide +kernel
theorem dX1_dependents_8 : decode cX1_dependents 8 = .ok (.getfield 28, 3) := by decide +kernel
theorem dX1_dependents_11 : decode cX1_dependents 11 = .ok (.if_icmp .ge 39, 3) := by decide +kernel
theorem dX1_dependents_14 : decode cX1_dependents 14 = .ok (.aload_n 0, 1) := by decide +kernel
theorem dX1_dependents_15 : decode cX1_dependents 15 = .ok (.getfield 17, 3) := by decide +kernel
theorem dX1_dependents_18 : decode cX1_dependents 18 = .ok (.iload_n 3, 1) := by decide +kernel
theorem dX1_dependents_19 : decode cX1_dependents 19 = .ok (.iaload, 1) := by decide +kernel
theorem dX1_dependents_20 : decode cX1_dependents 20 = .ok (.istore 4, 2) := by decide +kernel
theorem dX1_dependents_22 : decode cX1_dependents 22 = .ok (.aload_n 0, 1) := by decide +kernel
theorem dX1_dependents_23 : decode cX1_dependents 23 = .ok (.getfield 11, 3) := by decide +kernel
theorem dX1_dependents_26 : decode cX1_dependents 26 = .ok (.iload 4, 2) := by decide +kernel
theorem dX1_dependents_28 : decode cX1_dependents 28 = .ok (.aaload, 1) := by decide +kernel
theorem dX1_dependents_29 : decode cX1_dependents 29 = .ok (.invokevirtual 73, 3) := by decide +kernel
theorem dX1_dependents_32 : decode cX1_dependents 32 = .ok (.iload_n 2, 1) := by decide +kernel
theorem dX1_dependents_33 : decode cX1_dependents 33 = .ok (.iand, 1) := by decide +kernel
theorem dX1_dependents_34 : decode cX1_dependents 34 = .ok (.ifCond .eq 10, 3) := by decide +kernel
theorem dX1_dependents_37 : decode cX1_dependents 37 = .ok (.iload_n 2, 1) := by decide +kernel
theorem dX1_dependents_38 : decode cX1_dependents 38 = .ok (.iconst 1, 1) := by decide +kernel
theorem dX1_dependents_39 : decode cX1_dependents 39 = .ok (.iload 4, 2) := by decide +kernel
theorem dX1_dependents_41 : decode cX1_dependents 41 = .ok (.ishl, 1) := by decide +kernel
theorem dX1_dependents_42 : decode cX1_dependents 42 = .ok (.ior, 1) := by decide +kernel
theorem dX1_dependents_43 : decode cX1_dependents 43 = .ok (.istore_n 2, 1) := by decide +kernel
theorem dX1_dependents_44 : decode cX1_dependents 44 = .ok (.iinc 3 1, 3) := by decide +kernel
theorem dX1_dependents_47 : decode cX1_dependents 47 = .ok (.goto (-41), 3) := by decide +kernel
theorem dX1_dependents_50 : decode cX1_dependents 50 = .ok (.iload_n 2, 1) := by decide +kernel
theorem dX1_dependents_51 : decode cX1_dependents 51 = .ok (.ireturn, 1) := by decide +kernel
theorem dX1_depthBehindInputs_0 : decode cX1_depthBehindInputs 0 = .ok (.iconst 0, 1) := by decide +kernel
theorem dX1_depthBehindInputs_1 : decode cX1_depthBehindInputs 1 = .ok (.istore_n 2, 1) := by decide +kernel
theorem dX1_depthBehindInputs_2 : decode cX1_depthBehindInputs 2 = .ok (.iconst 0, 1) := by decide +kernel
theorem dX1_depthBehindInputs_3 : decode cX1_depthBehindInputs 3 = .ok (.istore_n 3, 1) := by decide +kernel
theorem dX1_depthBehindInputs_4 : decode cX1_depthBehindInputs 4 = .ok (.iload_n 3, 1) := by decide +kernel
theorem dX1_depthBehindInputs_5 : decode cX1_depthBehindInputs 5 = .ok (.iconst 3, 1) := by decide +kernel
theorem dX1_depthBehindInputs_6 : decode cX1_depthBehindInputs 6 = .ok (.if_icmp .ge 40, 3) := by decide +kernel
theorem dX1_depthBehindInputs_9 : decode cX1_depthBehindInputs 9 = .ok (.aload_n 1, 1) := by decide +kernel
theorem dX1_depthBehindInputs_10 : decode cX1_depthBehindInputs 10 = .ok (.getfield 63, 3) := by decide +kernel
theorem dX1_depthBehindInputs_13 : decode cX1_depthBehindInputs 13 = .ok (.iload_n 3, 1) := by decide +kernel
theorem dX1_depthBehindInputs_14 : decode cX1_depthBehindInputs 14 = .ok (.iaload, 1) := by decide +kernel
theorem dX1_depthBehindInputs_15 : decode cX1_depthBehindInputs 15 = .ok (.istore 4, 2) := by decide +kernel
theorem dX1_depthBehindInputs_17 : decode cX1_depthBehindInputs 17 = .ok (.aload_n 0, 1) := by decide +kernel
theorem dX1_depthBehindInputs_18 : decode cX1_depthBehindInputs 18 = .ok (.iload 4, 2) := by decide +kernel
theorem dX1_depthBehindInputs_20 : decode cX1_depthBehindInputs 20 = .ok (.invokevirtual 36, 3) := by decide +kernel
theorem dX1_depthBehindInputs_23 : decode cX1_depthBehindInputs 23 = .ok (.ifCond .eq 17, 3) := by decide +kernel
theorem dX1_depthBehindInputs_26 : decode cX1_depthBehindInputs 26 = .ok (.iload_n 2, 1) := by decide +kernel
theorem dX1_depthBehindInputs_27 : decode cX1_depthBehindInputs 27 = .ok (.aload_n 0, 1) := by decide +kernel
theorem dX1_depthBehindInputs_28 : decode cX1_depthBehindInputs 28 = .ok (.getfield 24, 3) := by decide +kernel
theorem dX1_depthBehindInputs_31 : decode cX1_depthBehindInputs 31 = .ok (.iload 4, 2) := by decide +kernel
theorem dX1_depthBehindInputs_33 : decode cX1_depthBehindInputs 33 = .ok (.iaload, 1) := by decide +kernel
theorem dX1_depthBehindInputs_34 : decode cX1_depthBehindInputs 34 = .ok (.iconst 1, 1) := by decide +kernel
theorem dX1_depthBehindInputs_35 : decode cX1_depthBehindInputs 35 = .ok (.iadd, 1) := by decide +kernel
theorem dX1_depthBehindInputs_36 : decode cX1_depthBehindInputs 36 = .ok (.invokestatic 87, 3) := by decide +kernel
theorem dX1_depthBehindInputs_39 : decode cX1_depthBehindInputs 39 = .ok (.istore_n 2, 1) := by decide +kernel
theorem dX1_depthBehindInputs_40 : decode cX1_depthBehindInputs 40 = .ok (.iinc 3 1, 3) := by decide +kernel
theorem dX1_depthBehindInputs_43 : decode cX1_depthBehindInputs 43 = .ok (.goto (-39), 3) := by decide +kernel
theorem dX1_depthBehindInputs_46 : decode cX1_depthBehindInputs 46 = .ok (.iload_n 2, 1) := by decide +kernel
theorem dX1_depthBehindInputs_47 : decode cX1_depthBehindInputs 47 = .ok (.ireturn, 1) := by decide +kernel
theorem dX1_firstReady_0 : decode cX1_firstReady 0 = .ok (.iconst 0, 1) := by decide +kernel
theorem dX1_firstReady_1 : decode cX1_firstReady 1 = .ok (.istore_n 2, 1) := by decide +kernel
theorem dX1_firstReady_2 : decode cX1_firstReady 2 = .ok (.iload_n 2, 1) := by decide +kernel
theorem dX1_firstReady_3 : decode cX1_firstReady 3 = .ok (.aload_n 0, 1) := by decide +kernel
theorem dX1_firstReady_4 : decode cX1_firstReady 4 = .ok (.getfield 28, 3) := by decide +kernel
theorem dX1_firstReady_7 : decode cX1_firstReady 7 = .ok (.if_icmp .ge 45, 3) := by decide +kernel
theorem dX1_firstReady_10 : decode cX1_firstReady 10 = .ok (.aload_n 0, 1) := by decide +kernel
theorem dX1_firstReady_11 : decode cX1_firstReady 11 = .ok (.getfield 11, 3) := by decide +kernel
theorem dX1_firstReady_14 : decode cX1_firstReady 14 = .ok (.iload_n 2, 1) := by decide +kernel
theorem dX1_firstReady_15 : decode cX1_firstReady 15 = .ok (.aaload, 1) := by decide +kernel
theorem dX1_firstReady_16 : decode cX1_firstReady 16 = .ok (.invokevirtual 73, 3) := by decide +kernel
theorem dX1_firstReady_19 : decode cX1_firstReady 19 = .ok (.iload_n 1, 1) := by decide +kernel
theorem dX1_firstReady_20 : decode cX1_firstReady 20 = .ok (.iconst (-1), 1) := by decide +kernel
theorem dX1_firstReady_21 : decode cX1_firstReady 21 = .ok (.ixor, 1) := by decide +kernel
theorem dX1_firstReady_22 : decode cX1_firstReady 22 = .ok (.iand, 1) := by decide +kernel
theorem dX1_firstReady_23 : decode cX1_firstReady 23 = .ok (.ifCond .ne 7, 3) := by decide +kernel
theorem dX1_firstReady_26 : decode cX1_firstReady 26 = .ok (.iconst 1, 1) := by decide +kernel
theorem dX1_firstReady_27 : decode cX1_firstReady 27 = .ok (.goto 4, 3) := by decide +kernel
theorem dX1_firstReady_30 : decode cX1_firstReady 30 = .ok (.iconst 0, 1) := by decide +kernel
theorem dX1_firstReady_31 : decode cX1_firstReady 31 = .ok (.istore_n 3, 1) := by decide +kernel
theorem dX1_firstReady_32 : decode cX1_firstReady 32 = .ok (.iload_n 3, 1) := by decide +kernel
theorem dX1_firstReady_33 : decode cX1_firstReady 33 = .ok (.ifCond .eq 13, 3) := by decide +kernel
theorem dX1_firstReady_36 : decode cX1_firstReady 36 = .ok (.iload_n 1, 1) := by decide +kernel
theorem dX1_firstReady_37 : decode cX1_firstReady 37 = .ok (.iload_n 2, 1) := by decide +kernel
theorem dX1_firstReady_38 : decode cX1_firstReady 38 = .ok (.invokestatic 84, 3) := by decide +kernel
theorem dX1_firstReady_41 : decode cX1_firstReady 41 = .ok (.ifCond .ne 5, 3) := by decide +kernel
theorem dX1_firstReady_44 : decode cX1_firstReady 44 = .ok (.iload_n 2, 1) := by decide +kernel
theorem dX1_firstReady_45 : decode cX1_firstReady 45 = .ok (.ireturn, 1) := by decide +kernel
theorem dX1_firstReady_46 : decode cX1_firstReady 46 = .ok (.iinc 2 1, 3) := by decide +kernel
theorem dX1_firstReady_49 : decode cX1_firstReady 49 = .ok (.goto (-47), 3) := by decide +kernel
theorem dX1_firstReady_52 : decode cX1_firstReady 52 = .ok (.iconst 0, 1) := by decide +kernel
theorem dX1_firstReady_53 : decode cX1_firstReady 53 = .ok (.ireturn, 1) := by decide +kernel
theorem dX1_has_0 : decode cX1_has 0 = .ok (.iload_n 1, 1) := by decide +kernel
theorem dX1_has_1 : decode cX1_has 1 = .ok (.iconst 0, 1) := by decide +kernel
theorem dX1_has_2 : decode cX1_has 2 = .ok (.aload_n 0, 1) := by decide +kernel
theorem dX1_has_3 : decode cX1_has 3 = .ok (.getfield 28, 3) := by decide +kernel
theorem dX1_has_6 : decode cX1_has 6 = .ok (.iconst 1, 1) := by decide +kernel
theorem dX1_has_7 : decode cX1_has 7 = .ok (.isub, 1) := by decide +kernel
theorem dX1_has_8 : decode cX1_has 8 = .ok (.invokestatic 32, 3) := by decide +kernel
theorem dX1_has_11 : decode cX1_has 11 = .ok (.ireturn, 1) := by decide +kernel
theorem dX1_hasInput_0 : decode cX1_hasInput 0 = .ok (.aload_n 0, 1) := by decide +kernel
theorem dX1_hasInput_1 : decode cX1_hasInput 1 = .ok (.iload_n 1, 1) := by decide +kernel
theorem dX1_hasInput_2 : decode cX1_hasInput 2 = .ok (.invokevirtual 36, 3) := by decide +kernel
theorem dX1_hasInput_5 : decode cX1_hasInput 5 = .ok (.ifCond .eq 29, 3) := by decide +kernel
theorem dX1_hasInput_8 : decode cX1_hasInput 8 = .ok (.iload_n 2, 1) := by decide +kernel
theorem dX1_hasInput_9 : decode cX1_hasInput 9 = .ok (.iconst 0, 1) := by decide +kernel
theorem dX1_hasInput_10 : decode cX1_hasInput 10 = .ok (.aload_n 0, 1) := by decide +kernel
theorem dX1_hasInput_11 : decode cX1_hasInput 11 = .ok (.getfield 11, 3) := by decide +kernel
theorem dX1_hasInput_14 : decode cX1_hasInput 14 = .ok (.iload_n 1, 1) := by decide +kernel
theorem dX1_hasInput_15 : decode cX1_hasInput 15 = .ok (.aaload, 1) := by decide +kernel
theorem dX1_hasInput_16 : decode cX1_hasInput 16 = .ok (.getfield 40, 3) := by decide +kernel
theorem dX1_hasInput_19 : decode cX1_hasInput 19 = .ok (.invokestatic 43, 3) := by decide +kernel
theorem dX1_hasInput_22 : decode cX1_hasInput 22 = .ok (.iconst 1, 1) := by decide +kernel
theorem dX1_hasInput_23 : decode cX1_hasInput 23 = .ok (.isub, 1) := by decide +kernel
theorem dX1_hasInput_24 : decode cX1_hasInput 24 = .ok (.invokestatic 32, 3) := by decide +kernel
theorem dX1_hasInput_27 : decode cX1_hasInput 27 = .ok (.ifCond .eq 7, 3) := by decide +kernel
theorem dX1_hasInput_30 : decode cX1_hasInput 30 = .ok (.iconst 1, 1) := by decide +kernel
theorem dX1_hasInput_31 : decode cX1_hasInput 31 = .ok (.goto 4, 3) := by decide +kernel
theorem dX1_hasInput_34 : decode cX1_hasInput 34 = .ok (.iconst 0, 1) := by decide +kernel
theorem dX1_hasInput_35 : decode cX1_hasInput 35 = .ok (.ireturn, 1) := by decide +kernel
theorem dX1_hasParameter_0 : decode cX1_hasParameter 0 = .ok (.aload_n 0, 1) := by decide +kernel
theorem dX1_hasParameter_1 : decode cX1_hasParameter 1 = .ok (.iload_n 1, 1) := by decide +kernel
theorem dX1_hasParameter_2 : decode cX1_hasParameter 2 = .ok (.invokevirtual 36, 3) := by decide +kernel
theorem dX1_hasParameter_5 : decode cX1_hasParameter 5 = .ok (.ifCond .eq 29, 3) := by decide +kernel
theorem dX1_hasParameter_8 : decode cX1_hasParameter 8 = .ok (.iload_n 2, 1) := by decide +kernel
theorem dX1_hasParameter_9 : decode cX1_hasParameter 9 = .ok (.iconst 0, 1) := by decide +kernel
theorem dX1_hasParameter_10 : decode cX1_hasParameter 10 = .ok (.aload_n 0, 1) := by decide +kernel
theorem dX1_hasParameter_11 : decode cX1_hasParameter 11 = .ok (.getfield 11, 3) := by decide +kernel
theorem dX1_hasParameter_14 : decode cX1_hasParameter 14 = .ok (.iload_n 1, 1) := by decide +kernel
theorem dX1_hasParameter_15 : decode cX1_hasParameter 15 = .ok (.aaload, 1) := by decide +kernel
theorem dX1_hasParameter_16 : decode cX1_hasParameter 16 = .ok (.getfield 40, 3) := by decide +kernel
theorem dX1_hasParameter_19 : decode cX1_hasParameter 19 = .ok (.invokestatic 49, 3) := by decide +kernel
theorem dX1_hasParameter_22 : decode cX1_hasParameter 22 = .ok (.iconst 1, 1) := by decide +kernel
theorem dX1_hasParameter_23 : decode cX1_hasParameter 23 = .ok (.isub, 1) := by decide +kernel
theorem dX1_hasParameter_24 : decode cX1_hasParameter 24 = .ok (.invokestatic 32, 3) := by decide +kernel
theorem dX1_hasParameter_27 : decode cX1_hasParameter 27 = .ok (.ifCond .eq 7, 3) := by decide +kernel
theorem dX1_hasParameter_30 : decode cX1_hasParameter 30 = .ok (.iconst 1, 1) := by decide +kernel
theorem dX1_hasParameter_31 : decode cX1_hasParameter 31 = .ok (.goto 4, 3) := by decide +kernel
theorem dX1_hasParameter_34 : decode cX1_hasParameter 34 = .ok (.iconst 0, 1) := by decide +kernel
theorem dX1_hasParameter_35 : decode cX1_hasParameter 35 = .ok (.ireturn, 1) := by decide +kernel
theorem dX1_init_0 : decode cX1_init 0 = .ok (.aload_n 0, 1) := by decide +kernel
theorem dX1_init_1 : decode cX1_init 1 = .ok (.invokespecial 3, 3) := by decide +kernel
theorem dX1_init_4 : decode cX1_init 4 = .ok (.aload_n 0, 1) := by decide +kernel
theorem dX1_init_5 : decode cX1_init 5 = .ok (.bipush 12, 2) := by decide +kernel
theorem dX1_init_7 : decode cX1_init 7 = .ok (.anewarray 9, 3) := by decide +kernel
theorem dX1_init_10 : decode cX1_init 10 = .ok (.putfield 11, 3) := by decide +kernel
theorem dX1_init_13 : decode cX1_init 13 = .ok (.aload_n 0, 1) := by decide +kernel
theorem dX1_init_14 : decode cX1_init 14 = .ok (.bipush 12, 2) := by decide +kernel
theorem dX1_init_16 : decode cX1_init 16 = .ok (.newarray .int, 2) := by decide +kernel
theorem dX1_init_18 : decode cX1_init 18 = .ok (.putfield 17, 3) := by decide +kernel
theorem dX1_init_21 : decode cX1_init 21 = .ok (.aload_n 0, 1) := by decide +kernel
theorem dX1_init_22 : decode cX1_init 22 = .ok (.bipush 12, 2) := by decide +kernel
theorem dX1_init_24 : decode cX1_init 24 = .ok (.newarray .int, 2) := by decide +kernel
theorem dX1_init_26 : decode cX1_init 26 = .ok (.putfield 21, 3) := by decide +kernel
theorem dX1_init_29 : decode cX1_init 29 = .ok (.aload_n 0, 1) := by decide +kernel
theorem dX1_init_30 : decode cX1_init 30 = .ok (.bipush 12, 2) := by decide +kernel
theorem dX1_init_32 : decode cX1_init 32 = .ok (.newarray .int, 2) := by decide +kernel
theorem dX1_init_34 : decode cX1_init 34 = .ok (.putfield 24, 3) := by decide +kernel
theorem dX1_init_37 : decode cX1_init 37 = .ok (.iconst 0, 1) := by decide +kernel
theorem dX1_init_38 : decode cX1_init 38 = .ok (.istore_n 1, 1) := by decide +kernel
theorem dX1_init_39 : decode cX1_init 39 = .ok (.iload_n 1, 1) := by decide +kernel
theorem dX1_init_40 : decode cX1_init 40 = .ok (.bipush 12, 2) := by decide +kernel
theorem dX1_init_42 : decode cX1_init 42 = .ok (.if_icmp .ge 22, 3) := by decide +kernel
theorem dX1_init_45 : decode cX1_init 45 = .ok (.aload_n 0, 1) := by decide +kernel
theorem dX1_init_46 : decode cX1_init 46 = .ok (.getfield 11, 3) := by decide +kernel
theorem dX1_init_49 : decode cX1_init 49 = .ok (.iload_n 1, 1) := by decide +kernel
theorem dX1_init_50 : decode cX1_init 50 = .ok (.new 9, 3) := by decide +kernel
theorem dX1_init_53 : decode cX1_init 53 = .ok (.dup, 1) := by decide +kernel
theorem dX1_init_54 : decode cX1_init 54 = .ok (.invokespecial 27, 3) := by decide +kernel
theorem dX1_init_57 : decode cX1_init 57 = .ok (.aastore, 1) := by decide +kernel
theorem dX1_init_58 : decode cX1_init 58 = .ok (.iinc 1 1, 3) := by decide +kernel
theorem dX1_init_61 : decode cX1_init 61 = .ok (.goto (-22), 3) := by decide +kernel
theorem dX1_init_64 : decode cX1_init 64 = .ok (.return_, 1) := by decide +kernel
theorem dX1_link_0 : decode cX1_link 0 = .ok (.aload_n 0, 1) := by decide +kernel
theorem dX1_link_1 : decode cX1_link 1 = .ok (.iload_n 1, 1) := by decide +kernel
theorem dX1_link_2 : decode cX1_link 2 = .ok (.iload_n 2, 1) := by decide +kernel
theorem dX1_link_3 : decode cX1_link 3 = .ok (.invokevirtual 59, 3) := by decide +kernel
theorem dX1_link_6 : decode cX1_link 6 = .ok (.ifCond .eq 19, 3) := by decide +kernel
theorem dX1_link_9 : decode cX1_link 9 = .ok (.aload_n 0, 1) := by decide +kernel
theorem dX1_link_10 : decode cX1_link 10 = .ok (.getfield 11, 3) := by decide +kernel
theorem dX1_link_13 : decode cX1_link 13 = .ok (.iload_n 1, 1) := by decide +kernel
theorem dX1_link_14 : decode cX1_link 14 = .ok (.aaload, 1) := by decide +kernel
theorem dX1_link_15 : decode cX1_link 15 = .ok (.getfield 63, 3) := by decide +kernel
theorem dX1_link_18 : decode cX1_link 18 = .ok (.iload_n 2, 1) := by decide +kernel
theorem dX1_link_19 : decode cX1_link 19 = .ok (.iload_n 3, 1) := by decide +kernel
theorem dX1_link_20 : decode cX1_link 20 = .ok (.iastore, 1) := by decide +kernel
theorem dX1_link_21 : decode cX1_link 21 = .ok (.aload_n 0, 1) := by decide +kernel
theorem dX1_link_22 : decode cX1_link 22 = .ok (.invokevirtual 56, 3) := by decide +kernel
theorem dX1_link_25 : decode cX1_link 25 = .ok (.return_, 1) := by decide +kernel
theorem dX1_removeAll_0 : decode cX1_removeAll 0 = .ok (.aload_n 0, 1) := by decide +kernel
theorem dX1_removeAll_1 : decode cX1_removeAll 1 = .ok (.iconst 0, 1) := by decide +kernel
theorem dX1_removeAll_2 : decode cX1_removeAll 2 = .ok (.putfield 28, 3) := by decide +kernel
theorem dX1_removeAll_5 : decode cX1_removeAll 5 = .ok (.return_, 1) := by decide +kernel
theorem dX2_atFirst_0 : decode cX2_atFirst 0 = .ok (.getstatic 31, 3) := by decide +kernel
theorem dX2_atFirst_3 : decode cX2_atFirst 3 = .ok (.iload_n 0, 1) := by decide +kernel
theorem dX2_atFirst_4 : decode cX2_atFirst 4 = .ok (.iconst 4, 1) := by decide +kernel
theorem dX2_atFirst_5 : decode cX2_atFirst 5 = .ok (.imul, 1) := by decide +kernel
theorem dX2_atFirst_6 : decode cX2_atFirst 6 = .ok (.iload_n 1, 1) := by decide +kernel
theorem dX2_atFirst_7 : decode cX2_atFirst 7 = .ok (.iadd, 1) := by decide +kernel
theorem dX2_atFirst_8 : decode cX2_atFirst 8 = .ok (.invokestatic 15, 3) := by decide +kernel
theorem dX2_atFirst_11 : decode cX2_atFirst 11 = .ok (.ireturn, 1) := by decide +kernel
theorem dX2_entry_0 : decode cX2_entry 0 = .ok (.iconst 0, 1) := by decide +kernel
theorem dX2_entry_1 : decode cX2_entry 1 = .ok (.iload_n 1, 1) := by decide +kernel
theorem dX2_entry_2 : decode cX2_entry 2 = .ok (.if_icmp .gt 15, 3) := by decide +kernel
theorem dX2_entry_5 : decode cX2_entry 5 = .ok (.iload_n 1, 1) := by decide +kernel
theorem dX2_entry_6 : decode cX2_entry 6 = .ok (.aload_n 0, 1) := by decide +kernel
theorem dX2_entry_7 : decode cX2_entry 7 = .ok (.arraylength, 1) := by decide +kernel
theorem dX2_entry_8 : decode cX2_entry 8 = .ok (.if_icmp .ge 9, 3) := by decide +kernel
theorem dX2_entry_11 : decode cX2_entry 11 = .ok (.aload_n 0, 1) := by decide +kernel
theorem dX2_entry_12 : decode cX2_entry 12 = .ok (.iload_n 1, 1) := by decide +kernel
theorem dX2_entry_13 : decode cX2_entry 13 = .ok (.iaload, 1) := by decide +kernel
theorem dX2_entry_14 : decode cX2_entry 14 = .ok (.goto 4, 3) := by decide +kernel
theorem dX2_entry_17 : decode cX2_entry 17 = .ok (.iconst 0, 1) := by decide +kernel
theorem dX2_entry_18 : decode cX2_entry 18 = .ok (.ireturn, 1) := by decide +kernel
theorem dX2_highest_0 : decode cX2_highest 0 = .ok (.getstatic 28, 3) := by decide +kernel
theorem dX2_highest_3 : decode cX2_highest 3 = .ok (.iload_n 0, 1) := by decide +kernel
theorem dX2_highest_4 : decode cX2_highest 4 = .ok (.iconst 4, 1) := by decide +kernel
theorem dX2_highest_5 : decode cX2_highest 5 = .ok (.imul, 1) := by decide +kernel
theorem dX2_highest_6 : decode cX2_highest 6 = .ok (.iload_n 1, 1) := by decide +kernel
theorem dX2_highest_7 : decode cX2_highest 7 = .ok (.iadd, 1) := by decide +kernel
theorem dX2_highest_8 : decode cX2_highest 8 = .ok (.invokestatic 15, 3) := by decide +kernel
theorem dX2_highest_11 : decode cX2_highest 11 = .ok (.ireturn, 1) := by decide +kernel
theorem dX2_inputs_0 : decode cX2_inputs 0 = .ok (.getstatic 9, 3) := by decide +kernel
theorem dX2_inputs_3 : decode cX2_inputs 3 = .ok (.iload_n 0, 1) := by decide +kernel
theorem dX2_inputs_4 : decode cX2_inputs 4 = .ok (.invokestatic 15, 3) := by decide +kernel
theorem dX2_inputs_7 : decode cX2_inputs 7 = .ok (.ireturn, 1) := by decide +kernel
theorem dX2_lowest_0 : decode cX2_lowest 0 = .ok (.getstatic 25, 3) := by decide +kernel
theorem dX2_lowest_3 : decode cX2_lowest 3 = .ok (.iload_n 0, 1) := by decide +kernel
theorem dX2_lowest_4 : decode cX2_lowest 4 = .ok (.iconst 4, 1) := by decide +kernel
theorem dX2_lowest_5 : decode cX2_lowest 5 = .ok (.imul, 1) := by decide +kernel
theorem dX2_lowest_6 : decode cX2_lowest 6 = .ok (.iload_n 1, 1) := by decide +kernel
theorem dX2_lowest_7 : decode cX2_lowest 7 = .ok (.iadd, 1) := by decide +kernel
theorem dX2_lowest_8 : decode cX2_lowest 8 = .ok (.invokestatic 15, 3) := by decide +kernel
theorem dX2_lowest_11 : decode cX2_lowest 11 = .ok (.ireturn, 1) := by decide +kernel
theorem dX2_numbers_0 : decode cX2_numbers 0 = .ok (.getstatic 22, 3) := by decide +kernel
theorem dX2_numbers_3 : decode cX2_numbers 3 = .ok (.iload_n 0, 1) := by decide +kernel
theorem dX2_numbers_4 : decode cX2_numbers 4 = .ok (.invokestatic 15, 3) := by decide +kernel
theorem dX2_numbers_7 : decode cX2_numbers 7 = .ok (.ireturn, 1) := by decide +kernel
theorem dX2_parameters_0 : decode cX2_parameters 0 = .ok (.getstatic 19, 3) := by decide +kernel
theorem dX2_parameters_3 : decode cX2_parameters 3 = .ok (.iload_n 0, 1) := by decide +kernel
theorem dX2_parameters_4 : decode cX2_parameters 4 = .ok (.invokestatic 15, 3) := by decide +kernel
theorem dX2_parameters_7 : decode cX2_parameters 7 = .ok (.ireturn, 1) := by decide +kernel
theorem dX3_copyFrom_0 : decode cX3_copyFrom 0 = .ok (.aload_n 0, 1) := by decide +kernel
theorem dX3_copyFrom_1 : decode cX3_copyFrom 1 = .ok (.aload_n 1, 1) := by decide +kernel
theorem dX3_copyFrom_2 : decode cX3_copyFrom 2 = .ok (.getfield 18, 3) := by decide +kernel
theorem dX3_copyFrom_5 : decode cX3_copyFrom 5 = .ok (.putfield 18, 3) := by decide +kernel
theorem dX3_copyFrom_8 : decode cX3_copyFrom 8 = .ok (.aload_n 0, 1) := by decide +kernel
theorem dX3_copyFrom_9 : decode cX3_copyFrom 9 = .ok (.aload_n 1, 1) := by decide +kernel
theorem dX3_copyFrom_10 : decode cX3_copyFrom 10 = .ok (.getfield 22, 3) := by decide +kernel
theorem dX3_copyFrom_13 : decode cX3_copyFrom 13 = .ok (.putfield 22, 3) := by decide +kernel
theorem dX3_copyFrom_16 : decode cX3_copyFrom 16 = .ok (.aload_n 0, 1) := by decide +kernel
theorem dX3_copyFrom_17 : decode cX3_copyFrom 17 = .ok (.aload_n 1, 1) := by decide +kernel
theorem dX3_copyFrom_18 : decode cX3_copyFrom 18 = .ok (.getfield 25, 3) := by decide +kernel
theorem dX3_copyFrom_21 : decode cX3_copyFrom 21 = .ok (.putfield 25, 3) := by decide +kernel
theorem dX3_copyFrom_24 : decode cX3_copyFrom 24 = .ok (.aload_n 1, 1) := by decide +kernel
theorem dX3_copyFrom_25 : decode cX3_copyFrom 25 = .ok (.getfield 9, 3) := by decide +kernel
theorem dX3_copyFrom_28 : decode cX3_copyFrom 28 = .ok (.iconst 0, 1) := by decide +kernel
theorem dX3_copyFrom_29 : decode cX3_copyFrom 29 = .ok (.aload_n 0, 1) := by decide +kernel
theorem dX3_copyFrom_30 : decode cX3_copyFrom 30 = .ok (.getfield 9, 3) := by decide +kernel
theorem dX3_copyFrom_33 : decode cX3_copyFrom 33 = .ok (.iconst 0, 1) := by decide +kernel
theorem dX3_copyFrom_34 : decode cX3_copyFrom 34 = .ok (.iconst 3, 1) := by decide +kernel
theorem dX3_copyFrom_35 : decode cX3_copyFrom 35 = .ok (.invokestatic 34, 3) := by decide +kernel
theorem dX3_copyFrom_38 : decode cX3_copyFrom 38 = .ok (.aload_n 1, 1) := by decide +kernel
theorem dX3_copyFrom_39 : decode cX3_copyFrom 39 = .ok (.getfield 15, 3) := by decide +kernel
theorem dX3_copyFrom_42 : decode cX3_copyFrom 42 = .ok (.iconst 0, 1) := by decide +kernel
theorem dX3_copyFrom_43 : decode cX3_copyFrom 43 = .ok (.aload_n 0, 1) := by decide +kernel
theorem dX3_copyFrom_44 : decode cX3_copyFrom 44 = .ok (.getfield 15, 3) := by decide +kernel
theorem dX3_copyFrom_47 : decode cX3_copyFrom 47 = .ok (.iconst 0, 1) := by decide +kernel
theorem dX3_copyFrom_48 : decode cX3_copyFrom 48 = .ok (.iconst 4, 1) := by decide +kernel
theorem dX3_copyFrom_49 : decode cX3_copyFrom 49 = .ok (.invokestatic 34, 3) := by decide +kernel
theorem dX3_copyFrom_52 : decode cX3_copyFrom 52 = .ok (.return_, 1) := by decide +kernel
theorem dX3_init_0 : decode cX3_init 0 = .ok (.aload_n 0, 1) := by decide +kernel
theorem dX3_init_1 : decode cX3_init 1 = .ok (.invokespecial 3, 3) := by decide +kernel
theorem dX3_init_4 : decode cX3_init 4 = .ok (.aload_n 0, 1) := by decide +kernel
theorem dX3_init_5 : decode cX3_init 5 = .ok (.iconst 3, 1) := by decide +kernel
theorem dX3_init_6 : decode cX3_init 6 = .ok (.newarray .int, 2) := by decide +kernel
theorem dX3_init_8 : decode cX3_init 8 = .ok (.putfield 9, 3) := by decide +kernel
theorem dX3_init_11 : decode cX3_init 11 = .ok (.aload_n 0, 1) := by decide +kernel
theorem dX3_init_12 : decode cX3_init 12 = .ok (.iconst 4, 1) := by decide +kernel
theorem dX3_init_13 : decode cX3_init 13 = .ok (.newarray .int, 2) := by decide +kernel
theorem dX3_init_15 : decode cX3_init 15 = .ok (.putfield 15, 3) := by decide +kernel
theorem dX3_init_18 : decode cX3_init 18 = .ok (.return_, 1) := by decide +kernel
theorem dX3_inputSet_0 : decode cX3_inputSet 0 = .ok (.iconst 0, 1) := by decide +kernel
theorem dX3_inputSet_1 : decode cX3_inputSet 1 = .ok (.istore_n 1, 1) := by decide +kernel
theorem dX3_inputSet_2 : decode cX3_inputSet 2 = .ok (.iconst 0, 1) := by decide +kernel
theorem dX3_inputSet_3 : decode cX3_inputSet 3 = .ok (.istore_n 2, 1) := by decide +kernel
theorem dX3_inputSet_4 : decode cX3_inputSet 4 = .ok (.iload_n 2, 1) := by decide +kernel
theorem dX3_inputSet_5 : decode cX3_inputSet 5 = .ok (.iconst 3, 1) := by decide +kernel
theorem dX3_inputSet_6 : decode cX3_inputSet 6 = .ok (.if_icmp .ge 32, 3) := by decide +kernel
theorem dX3_inputSet_9 : decode cX3_inputSet 9 = .ok (.aload_n 0, 1) := by decide +kernel
theorem dX3_inputSet_10 : decode cX3_inputSet 10 = .ok (.getfield 9, 3) := by decide +kernel
theorem dX3_inputSet_13 : decode cX3_inputSet 13 = .ok (.iload_n 2, 1) := by decide +kernel
theorem dX3_inputSet_14 : decode cX3_inputSet 14 = .ok (.iaload, 1) := by decide +kernel
theorem dX3_inputSet_15 : decode cX3_inputSet 15 = .ok (.sipush (-1005), 3) := by decide +kernel
theorem dX3_inputSet_18 : decode cX3_inputSet 18 = .ok (.if_icmp .eq 14, 3) := by decide +kernel
theorem dX3_inputSet_21 : decode cX3_inputSet 21 = .ok (.iload_n 1, 1) := by decide +kernel
theorem dX3_inputSet_22 : decode cX3_inputSet 22 = .ok (.iconst 1, 1) := by decide +kernel
theorem dX3_inputSet_23 : decode cX3_inputSet 23 = .ok (.aload_n 0, 1) := by decide +kernel
theorem dX3_inputSet_24 : decode cX3_inputSet 24 = .ok (.getfield 9, 3) := by decide +kernel
theorem dX3_inputSet_27 : decode cX3_inputSet 27 = .ok (.iload_n 2, 1) := by decide +kernel
theorem dX3_inputSet_28 : decode cX3_inputSet 28 = .ok (.iaload, 1) := by decide +kernel
theorem dX3_inputSet_29 : decode cX3_inputSet 29 = .ok (.ishl, 1) := by decide +kernel
theorem dX3_inputSet_30 : decode cX3_inputSet 30 = .ok (.ior, 1) := by decide +kernel
theorem dX3_inputSet_31 : decode cX3_inputSet 31 = .ok (.istore_n 1, 1) := by decide +kernel
theorem dX3_inputSet_32 : decode cX3_inputSet 32 = .ok (.iinc 2 1, 3) := by decide +kernel
theorem dX3_inputSet_35 : decode cX3_inputSet 35 = .ok (.goto (-31), 3) := by decide +kernel
theorem dX3_inputSet_38 : decode cX3_inputSet 38 = .ok (.iload_n 1, 1) := by decide +kernel
theorem dX3_inputSet_39 : decode cX3_inputSet 39 = .ok (.ireturn, 1) := by decide +kernel
theorem dX3_reset_0 : decode cX3_reset 0 = .ok (.aload_n 0, 1) := by decide +kernel
theorem dX3_reset_1 : decode cX3_reset 1 = .ok (.iload_n 1, 1) := by decide +kernel
theorem dX3_reset_2 : decode cX3_reset 2 = .ok (.putfield 18, 3) := by decide +kernel
theorem dX3_reset_5 : decode cX3_reset 5 = .ok (.aload_n 0, 1) := by decide +kernel
theorem dX3_reset_6 : decode cX3_reset 6 = .ok (.iconst 0, 1) := by decide +kernel
theorem dX3_reset_7 : decode cX3_reset 7 = .ok (.putfield 22, 3) := by decide +kernel
theorem dX3_reset_10 : decode cX3_reset 10 = .ok (.aload_n 0, 1) := by decide +kernel
theorem dX3_reset_11 : decode cX3_reset 11 = .ok (.bipush 99, 2) := by decide +kernel
theorem dX3_reset_13 : decode cX3_reset 13 = .ok (.putfield 25, 3) := by decide +kernel
theorem dX3_reset_16 : decode cX3_reset 16 = .ok (.iconst 0, 1) := by decide +kernel
theorem dX3_reset_17 : decode cX3_reset 17 = .ok (.istore_n 2, 1) := by decide +kernel
theorem dX3_reset_18 : decode cX3_reset 18 = .ok (.iload_n 2, 1) := by decide +kernel
theorem dX3_reset_19 : decode cX3_reset 19 = .ok (.iconst 3, 1) := by decide +kernel
theorem dX3_reset_20 : decode cX3_reset 20 = .ok (.if_icmp .ge 18, 3) := by decide +kernel
theorem dX3_reset_23 : decode cX3_reset 23 = .ok (.aload_n 0, 1) := by decide +kernel
theorem dX3_reset_24 : decode cX3_reset 24 = .ok (.getfield 9, 3) := by decide +kernel
theorem dX3_reset_27 : decode cX3_reset 27 = .ok (.iload_n 2, 1) := by decide +kernel
theorem dX3_reset_28 : decode cX3_reset 28 = .ok (.sipush (-1005), 3) := by decide +kernel
theorem dX3_reset_31 : decode cX3_reset 31 = .ok (.iastore, 1) := by decide +kernel
theorem dX3_reset_32 : decode cX3_reset 32 = .ok (.iinc 2 1, 3) := by decide +kernel
theorem dX3_reset_35 : decode cX3_reset 35 = .ok (.goto (-17), 3) := by decide +kernel
theorem dX3_reset_38 : decode cX3_reset 38 = .ok (.iconst 0, 1) := by decide +kernel
theorem dX3_reset_39 : decode cX3_reset 39 = .ok (.istore_n 2, 1) := by decide +kernel
theorem dX3_reset_40 : decode cX3_reset 40 = .ok (.iload_n 2, 1) := by decide +kernel
theorem dX3_reset_41 : decode cX3_reset 41 = .ok (.iconst 4, 1) := by decide +kernel
theorem dX3_reset_42 : decode cX3_reset 42 = .ok (.if_icmp .ge 20, 3) := by decide +kernel
theorem dX3_reset_45 : decode cX3_reset 45 = .ok (.aload_n 0, 1) := by decide +kernel
theorem dX3_reset_46 : decode cX3_reset 46 = .ok (.getfield 15, 3) := by decide +kernel
theorem dX3_reset_49 : decode cX3_reset 49 = .ok (.iload_n 2, 1) := by decide +kernel
theorem dX3_reset_50 : decode cX3_reset 50 = .ok (.iload_n 1, 1) := by decide +kernel
theorem dX3_reset_51 : decode cX3_reset 51 = .ok (.iload_n 2, 1) := by decide +kernel
theorem dX3_reset_52 : decode cX3_reset 52 = .ok (.invokestatic 28, 3) := by decide +kernel
theorem dX3_reset_55 : decode cX3_reset 55 = .ok (.iastore, 1) := by decide +kernel
theorem dX3_reset_56 : decode cX3_reset 56 = .ok (.iinc 2 1, 3) := by decide +kernel
theorem dX3_reset_59 : decode cX3_reset 59 = .ok (.goto (-19), 3) := by decide +kernel
theorem dX3_reset_62 : decode cX3_reset 62 = .ok (.return_, 1) := by decide +kernel
theorem dX4_mask_0 : decode cX4_mask 0 = .ok (.iload_n 1, 1) := by decide +kernel
theorem dX4_mask_1 : decode cX4_mask 1 = .ok (.iload_n 2, 1) := by decide +kernel
theorem dX4_mask_2 : decode cX4_mask 2 = .ok (.if_icmp .le 5, 3) := by decide +kernel
theorem dX4_mask_5 : decode cX4_mask 5 = .ok (.iconst 0, 1) := by decide +kernel
theorem dX4_mask_6 : decode cX4_mask 6 = .ok (.ireturn, 1) := by decide +kernel
theorem dX4_mask_7 : decode cX4_mask 7 = .ok (.iconst 0, 1) := by decide +kernel
theorem dX4_mask_8 : decode cX4_mask 8 = .ok (.iload_n 1, 1) := by decide +kernel
theorem dX4_mask_9 : decode cX4_mask 9 = .ok (.iload_n 0, 1) := by decide +kernel
theorem dX4_mask_10 : decode cX4_mask 10 = .ok (.isub, 1) := by decide +kernel
theorem dX4_mask_11 : decode cX4_mask 11 = .ok (.iload_n 0, 1) := by decide +kernel
theorem dX4_mask_12 : decode cX4_mask 12 = .ok (.iload_n 2, 1) := by decide +kernel
theorem dX4_mask_13 : decode cX4_mask 13 = .ok (.isub, 1) := by decide +kernel
theorem dX4_mask_14 : decode cX4_mask 14 = .ok (.invokestatic 51, 3) := by decide +kernel
theorem dX4_mask_17 : decode cX4_mask 17 = .ok (.invokestatic 51, 3) := by decide +kernel
theorem dX4_mask_20 : decode cX4_mask 20 = .ok (.istore 4, 2) := by decide +kernel
theorem dX4_mask_22 : decode cX4_mask 22 = .ok (.iload 4, 2) := by decide +kernel
theorem dX4_mask_24 : decode cX4_mask 24 = .ok (.iload_n 3, 1) := by decide +kernel
theorem dX4_mask_25 : decode cX4_mask 25 = .ok (.if_icmp .le 5, 3) := by decide +kernel
theorem dX4_mask_28 : decode cX4_mask 28 = .ok (.iconst 0, 1) := by decide +kernel
theorem dX4_mask_29 : decode cX4_mask 29 = .ok (.ireturn, 1) := by decide +kernel
theorem dX4_mask_30 : decode cX4_mask 30 = .ok (.sipush 255, 3) := by decide +kernel
theorem dX4_mask_33 : decode cX4_mask 33 = .ok (.sipush 255, 3) := by decide +kernel
theorem dX4_mask_36 : decode cX4_mask 36 = .ok (.iload 4, 2) := by decide +kernel
theorem dX4_mask_38 : decode cX4_mask 38 = .ok (.imul, 1) := by decide +kernel
theorem dX4_mask_39 : decode cX4_mask 39 = .ok (.iload_n 3, 1) := by decide +kernel
theorem dX4_mask_40 : decode cX4_mask 40 = .ok (.iconst 1, 1) := by decide +kernel
theorem dX4_mask_41 : decode cX4_mask 41 = .ok (.iadd, 1) := by decide +kernel
theorem dX4_mask_42 : decode cX4_mask 42 = .ok (.idiv, 1) := by decide +kernel
theorem dX4_mask_43 : decode cX4_mask 43 = .ok (.isub, 1) := by decide +kernel
theorem dX4_mask_44 : decode cX4_mask 44 = .ok (.ireturn, 1) := by decide +kernel
theorem dX4_paint_0 : decode cX4_paint 0 = .ok (.aload_n 0, 1) := by decide +kernel
theorem dX4_paint_1 : decode cX4_paint 1 = .ok (.getfield 9, 3) := by decide +kernel
theorem dX4_paint_4 : decode cX4_paint 4 = .ok (.tableswitch 102 0 5 #[40, 55, 55, 65, 74, 89], 40) := by decide +kernel
theorem dX4_paint_44 : decode cX4_paint 44 = .ok (.aload_n 0, 1) := by decide +kernel
theorem dX4_paint_45 : decode cX4_paint 45 = .ok (.getfield 15, 3) := by decide +kernel
theorem dX4_paint_48 : decode cX4_paint 48 = .ok (.iconst 0, 1) := by decide +kernel
theorem dX4_paint_49 : decode cX4_paint 49 = .ok (.iaload, 1) := by decide +kernel
theorem dX4_paint_50 : decode cX4_paint 50 = .ok (.iload_n 1, 1) := by decide +kernel
theorem dX4_paint_51 : decode cX4_paint 51 = .ok (.aload 5, 2) := by decide +kernel
theorem dX4_paint_53 : decode cX4_paint 53 = .ok (.invokestatic 19, 3) := by decide +kernel
theorem dX4_paint_56 : decode cX4_paint 56 = .ok (.goto 59, 3) := by decide +kernel
theorem dX4_paint_59 : decode cX4_paint 59 = .ok (.aload_n 0, 1) := by decide +kernel
theorem dX4_paint_60 : decode cX4_paint 60 = .ok (.aload_n 2, 1) := by decide +kernel
theorem dX4_paint_61 : decode cX4_paint 61 = .ok (.aload 5, 2) := by decide +kernel
theorem dX4_paint_63 : decode cX4_paint 63 = .ok (.invokestatic 25, 3) := by decide +kernel
theorem dX4_paint_66 : decode cX4_paint 66 = .ok (.goto 49, 3) := by decide +kernel
theorem dX4_paint_69 : decode cX4_paint 69 = .ok (.aload_n 2, 1) := by decide +kernel
theorem dX4_paint_70 : decode cX4_paint 70 = .ok (.aload 5, 2) := by decide +kernel
theorem dX4_paint_72 : decode cX4_paint 72 = .ok (.invokestatic 29, 3) := by decide +kernel
theorem dX4_paint_75 : decode cX4_paint 75 = .ok (.goto 40, 3) := by decide +kernel
theorem dX4_paint_78 : decode cX4_paint 78 = .ok (.aload_n 0, 1) := by decide +kernel
theorem dX4_paint_79 : decode cX4_paint 79 = .ok (.getfield 15, 3) := by decide +kernel
theorem dX4_paint_82 : decode cX4_paint 82 = .ok (.iconst 0, 1) := by decide +kernel
theorem dX4_paint_83 : decode cX4_paint 83 = .ok (.iaload, 1) := by decide +kernel
theorem dX4_paint_84 : decode cX4_paint 84 = .ok (.aload_n 2, 1) := by decide +kernel
theorem dX4_paint_85 : decode cX4_paint 85 = .ok (.aload 5, 2) := by decide +kernel
theorem dX4_paint_87 : decode cX4_paint 87 = .ok (.invokestatic 33, 3) := by decide +kernel
theorem dX4_paint_90 : decode cX4_paint 90 = .ok (.goto 25, 3) := by decide +kernel
theorem dX4_paint_93 : decode cX4_paint 93 = .ok (.aload_n 0, 1) := by decide +kernel
theorem dX4_paint_94 : decode cX4_paint 94 = .ok (.getfield 15, 3) := by decide +kernel
theorem dX4_paint_97 : decode cX4_paint 97 = .ok (.aload_n 2, 1) := by decide +kernel
theorem dX4_paint_98 : decode cX4_paint 98 = .ok (.aload 5, 2) := by decide +kernel
theorem dX4_paint_100 : decode cX4_paint 100 = .ok (.invokestatic 37, 3) := by decide +kernel
theorem dX4_paint_103 : decode cX4_paint 103 = .ok (.goto 12, 3) := by decide +kernel
theorem dX4_paint_106 : decode cX4_paint 106 = .ok (.aload_n 2, 1) := by decide +kernel
theorem dX4_paint_107 : decode cX4_paint 107 = .ok (.aload_n 3, 1) := by decide +kernel
theorem dX4_paint_108 : decode cX4_paint 108 = .ok (.aload 4, 2) := by decide +kernel
theorem dX4_paint_110 : decode cX4_paint 110 = .ok (.aload 5, 2) := by decide +kernel
theorem dX4_paint_112 : decode cX4_paint 112 = .ok (.invokestatic 41, 3) := by decide +kernel
theorem dX4_paint_115 : decode cX4_paint 115 = .ok (.return_, 1) := by decide +kernel
theorem dX4_paintAmounts_0 : decode cX4_paintAmounts 0 = .ok (.iconst 0, 1) := by decide +kernel
theorem dX4_paintAmounts_1 : decode cX4_paintAmounts 1 = .ok (.istore_n 3, 1) := by decide +kernel
theorem dX4_paintAmounts_2 : decode cX4_paintAmounts 2 = .ok (.iload_n 3, 1) := by decide +kernel
theorem dX4_paintAmounts_3 : decode cX4_paintAmounts 3 = .ok (.bipush 96, 2) := by decide +kernel
theorem dX4_paintAmounts_5 : decode cX4_paintAmounts 5 = .ok (.if_icmp .ge 63, 3) := by decide +kernel
theorem dX4_paintAmounts_8 : decode cX4_paintAmounts 8 = .ok (.aload_n 0, 1) := by decide +kernel
theorem dX4_paintAmounts_9 : decode cX4_paintAmounts 9 = .ok (.getfield 15, 3) := by decide +kernel
theorem dX4_paintAmounts_12 : decode cX4_paintAmounts 12 = .ok (.iload_n 3, 1) := by decide +kernel
theorem dX4_paintAmounts_13 : decode cX4_paintAmounts 13 = .ok (.bipush 32, 2) := by decide +kernel
theorem dX4_paintAmounts_15 : decode cX4_paintAmounts 15 = .ok (.idiv, 1) := by decide +kernel
theorem dX4_paintAmounts_16 : decode cX4_paintAmounts 16 = .ok (.iaload, 1) := by decide +kernel
theorem dX4_paintAmounts_17 : decode cX4_paintAmounts 17 = .ok (.istore 4, 2) := by decide +kernel
theorem dX4_paintAmounts_19 : decode cX4_paintAmounts 19 = .ok (.aload_n 0, 1) := by decide +kernel
theorem dX4_paintAmounts_20 : decode cX4_paintAmounts 20 = .ok (.getfield 9, 3) := by decide +kernel
theorem dX4_paintAmounts_23 : decode cX4_paintAmounts 23 = .ok (.iconst 1, 1) := by decide +kernel
theorem dX4_paintAmounts_24 : decode cX4_paintAmounts 24 = .ok (.if_icmp .ne 15, 3) := by decide +kernel
theorem dX4_paintAmounts_27 : decode cX4_paintAmounts 27 = .ok (.aload_n 1, 1) := by decide +kernel
theorem dX4_paintAmounts_28 : decode cX4_paintAmounts 28 = .ok (.iload_n 3, 1) := by decide +kernel
theorem dX4_paintAmounts_29 : decode cX4_paintAmounts 29 = .ok (.iaload, 1) := by decide +kernel
theorem dX4_paintAmounts_30 : decode cX4_paintAmounts 30 = .ok (.iload 4, 2) := by decide +kernel
theorem dX4_paintAmounts_32 : decode cX4_paintAmounts 32 = .ok (.imul, 1) := by decide +kernel
theorem dX4_paintAmounts_33 : decode cX4_paintAmounts 33 = .ok (.bipush 16, 2) := by decide +kernel
theorem dX4_paintAmounts_35 : decode cX4_paintAmounts 35 = .ok (.idiv, 1) := by decide +kernel
theorem dX4_paintAmounts_36 : decode cX4_paintAmounts 36 = .ok (.goto 9, 3) := by decide +kernel
theorem dX4_paintAmounts_39 : decode cX4_paintAmounts 39 = .ok (.aload_n 1, 1) := by decide +kernel
theorem dX4_paintAmounts_40 : decode cX4_paintAmounts 40 = .ok (.iload_n 3, 1) := by decide +kernel
theorem dX4_paintAmounts_41 : decode cX4_paintAmounts 41 = .ok (.iaload, 1) := by decide +kernel
theorem dX4_paintAmounts_42 : decode cX4_paintAmounts 42 = .ok (.iload 4, 2) := by decide +kernel
theorem dX4_paintAmounts_44 : decode cX4_paintAmounts 44 = .ok (.iadd, 1) := by decide +kernel
theorem dX4_paintAmounts_45 : decode cX4_paintAmounts 45 = .ok (.istore 5, 2) := by decide +kernel
theorem dX4_paintAmounts_47 : decode cX4_paintAmounts 47 = .ok (.aload_n 2, 1) := by decide +kernel
theorem dX4_paintAmounts_48 : decode cX4_paintAmounts 48 = .ok (.iload_n 3, 1) := by decide +kernel
theorem dX4_paintAmounts_49 : decode cX4_paintAmounts 49 = .ok (.iconst 0, 1) := by decide +kernel
theorem dX4_paintAmounts_50 : decode cX4_paintAmounts 50 = .ok (.sipush 255, 3) := by decide +kernel
theorem dX4_paintAmounts_53 : decode cX4_paintAmounts 53 = .ok (.iload 5, 2) := by decide +kernel
theorem dX4_paintAmounts_55 : decode cX4_paintAmounts 55 = .ok (.invokestatic 45, 3) := by decide +kernel
theorem dX4_paintAmounts_58 : decode cX4_paintAmounts 58 = .ok (.invokestatic 51, 3) := by decide +kernel
theorem dX4_paintAmounts_61 : decode cX4_paintAmounts 61 = .ok (.iastore, 1) := by decide +kernel
theorem dX4_paintAmounts_62 : decode cX4_paintAmounts 62 = .ok (.iinc 3 1, 3) := by decide +kernel
theorem dX4_paintAmounts_65 : decode cX4_paintAmounts 65 = .ok (.goto (-63), 3) := by decide +kernel
theorem dX4_paintAmounts_68 : decode cX4_paintAmounts 68 = .ok (.return_, 1) := by decide +kernel
theorem dX4_paintBlend_0 : decode cX4_paintBlend 0 = .ok (.iconst 0, 1) := by decide +kernel
theorem dX4_paintBlend_1 : decode cX4_paintBlend 1 = .ok (.istore 4, 2) := by decide +kernel
theorem dX4_paintBlend_3 : decode cX4_paintBlend 3 = .ok (.iload 4, 2) := by decide +kernel
theorem dX4_paintBlend_5 : decode cX4_paintBlend 5 = .ok (.bipush 96, 2) := by decide +kernel
theorem dX4_paintBlend_7 : decode cX4_paintBlend 7 = .ok (.if_icmp .ge 42, 3) := by decide +kernel
theorem dX4_paintBlend_10 : decode cX4_paintBlend 10 = .ok (.aload_n 2, 1) := by decide +kernel
theorem dX4_paintBlend_11 : decode cX4_paintBlend 11 = .ok (.iload 4, 2) := by decide +kernel
theorem dX4_paintBlend_13 : decode cX4_paintBlend 13 = .ok (.iaload, 1) := by decide +kernel
theorem dX4_paintBlend_14 : decode cX4_paintBlend 14 = .ok (.istore 5, 2) := by decide +kernel
theorem dX4_paintBlend_16 : decode cX4_paintBlend 16 = .ok (.aload_n 3, 1) := by decide +kernel
theorem dX4_paintBlend_17 : decode cX4_paintBlend 17 = .ok (.iload 4, 2) := by decide +kernel
theorem dX4_paintBlend_19 : decode cX4_paintBlend 19 = .ok (.aload_n 0, 1) := by decide +kernel
theorem dX4_paintBlend_20 : decode cX4_paintBlend 20 = .ok (.iload 4, 2) := by decide +kernel
theorem dX4_paintBlend_22 : decode cX4_paintBlend 22 = .ok (.iaload, 1) := by decide +kernel
theorem dX4_paintBlend_23 : decode cX4_paintBlend 23 = .ok (.sipush 255, 3) := by decide +kernel
theorem dX4_paintBlend_26 : decode cX4_paintBlend 26 = .ok (.iload 5, 2) := by decide +kernel
theorem dX4_paintBlend_28 : decode cX4_paintBlend 28 = .ok (.isub, 1) := by decide +kernel
theorem dX4_paintBlend_29 : decode cX4_paintBlend 29 = .ok (.imul, 1) := by decide +kernel
theorem dX4_paintBlend_30 : decode cX4_paintBlend 30 = .ok (.aload_n 1, 1) := by decide +kernel
theorem dX4_paintBlend_31 : decode cX4_paintBlend 31 = .ok (.iload 4, 2) := by decide +kernel
theorem dX4_paintBlend_33 : decode cX4_paintBlend 33 = .ok (.iaload, 1) := by decide +kernel
theorem dX4_paintBlend_34 : decode cX4_paintBlend 34 = .ok (.iload 5, 2) := by decide +kernel
theorem dX4_paintBlend_36 : decode cX4_paintBlend 36 = .ok (.imul, 1) := by decide +kernel
theorem dX4_paintBlend_37 : decode cX4_paintBlend 37 = .ok (.iadd, 1) := by decide +kernel
theorem dX4_paintBlend_38 : decode cX4_paintBlend 38 = .ok (.sipush 255, 3) := by decide +kernel
theorem dX4_paintBlend_41 : decode cX4_paintBlend 41 = .ok (.idiv, 1) := by decide +kernel
theorem dX4_paintBlend_42 : decode cX4_paintBlend 42 = .ok (.iastore, 1) := by decide +kernel
theorem dX4_paintBlend_43 : decode cX4_paintBlend 43 = .ok (.iinc 4 1, 3) := by decide +kernel
theorem dX4_paintBlend_46 : decode cX4_paintBlend 46 = .ok (.goto (-43), 3) := by decide +kernel
theorem dX4_paintBlend_49 : decode cX4_paintBlend 49 = .ok (.return_, 1) := by decide +kernel
theorem dX4_paintBlur_0 : decode cX4_paintBlur 0 = .ok (.iconst 0, 1) := by decide +kernel
theorem dX4_paintBlur_1 : decode cX4_paintBlur 1 = .ok (.istore_n 3, 1) := by decide +kernel
theorem dX4_paintBlur_2 : decode cX4_paintBlur 2 = .ok (.iload_n 3, 1) := by decide +kernel
theorem dX4_paintBlur_3 : decode cX4_paintBlur 3 = .ok (.bipush 96, 2) := by decide +kernel
theorem dX4_paintBlur_5 : decode cX4_paintBlur 5 = .ok (.if_icmp .ge 90, 3) := by decide +kernel
theorem dX4_paintBlur_8 : decode cX4_paintBlur 8 = .ok (.iload_n 3, 1) := by decide +kernel
theorem dX4_paintBlur_9 : decode cX4_paintBlur 9 = .ok (.bipush 8, 2) := by decide +kernel
theorem dX4_paintBlur_11 : decode cX4_paintBlur 11 = .ok (.irem, 1) := by decide +kernel
theorem dX4_paintBlur_12 : decode cX4_paintBlur 12 = .ok (.istore 4, 2) := by decide +kernel
theorem dX4_paintBlur_14 : decode cX4_paintBlur 14 = .ok (.iload_n 0, 1) := by decide +kernel
theorem dX4_paintBlur_15 : decode cX4_paintBlur 15 = .ok (.ineg, 1) := by decide +kernel
theorem dX4_paintBlur_16 : decode cX4_paintBlur 16 = .ok (.iload 4, 2) := by decide +kernel
theorem dX4_paintBlur_18 : decode cX4_paintBlur 18 = .ok (.ineg, 1) := by decide +kernel
theorem dX4_paintBlur_19 : decode cX4_paintBlur 19 = .ok (.invokestatic 51, 3) := by decide +kernel
theorem dX4_paintBlur_22 : decode cX4_paintBlur 22 = .ok (.istore 5, 2) := by decide +kernel
theorem dX4_paintBlur_24 : decode cX4_paintBlur 24 = .ok (.iload_n 0, 1) := by decide +kernel
theorem dX4_paintBlur_25 : decode cX4_paintBlur 25 = .ok (.bipush 7, 2) := by decide +kernel
theorem dX4_paintBlur_27 : decode cX4_paintBlur 27 = .ok (.iload 4, 2) := by decide +kernel
theorem dX4_paintBlur_29 : decode cX4_paintBlur 29 = .ok (.isub, 1) := by decide +kernel
theorem dX4_paintBlur_30 : decode cX4_paintBlur 30 = .ok (.invokestatic 45, 3) := by decide +kernel
theorem dX4_paintBlur_33 : decode cX4_paintBlur 33 = .ok (.istore 6, 2) := by decide +kernel
theorem dX4_paintBlur_35 : decode cX4_paintBlur 35 = .ok (.iconst 0, 1) := by decide +kernel
theorem dX4_paintBlur_36 : decode cX4_paintBlur 36 = .ok (.istore 7, 2) := by decide +kernel
theorem dX4_paintBlur_38 : decode cX4_paintBlur 38 = .ok (.iconst 0, 1) := by decide +kernel
theorem dX4_paintBlur_39 : decode cX4_paintBlur 39 = .ok (.istore 8, 2) := by decide +kernel
theorem dX4_paintBlur_41 : decode cX4_paintBlur 41 = .ok (.iload 5, 2) := by decide +kernel
theorem dX4_paintBlur_43 : decode cX4_paintBlur 43 = .ok (.istore 9, 2) := by decide +kernel
theorem dX4_paintBlur_45 : decode cX4_paintBlur 45 = .ok (.iload 9, 2) := by decide +kernel
theorem dX4_paintBlur_47 : decode cX4_paintBlur 47 = .ok (.iload 6, 2) := by decide +kernel
theorem dX4_paintBlur_49 : decode cX4_paintBlur 49 = .ok (.if_icmp .gt 23, 3) := by decide +kernel
theorem dX4_paintBlur_52 : decode cX4_paintBlur 52 = .ok (.iload 7, 2) := by decide +kernel
theorem dX4_paintBlur_54 : decode cX4_paintBlur 54 = .ok (.aload_n 1, 1) := by decide +kernel
theorem dX4_paintBlur_55 : decode cX4_paintBlur 55 = .ok (.iload_n 3, 1) := by decide +kernel
theorem dX4_paintBlur_56 : decode cX4_paintBlur 56 = .ok (.iload 9, 2) := by decide +kernel
theorem dX4_paintBlur_58 : decode cX4_paintBlur 58 = .ok (.iadd, 1) := by decide +kernel
theorem dX4_paintBlur_59 : decode cX4_paintBlur 59 = .ok (.iaload, 1) := by decide +kernel
theorem dX4_paintBlur_60 : decode cX4_paintBlur 60 = .ok (.iadd, 1) := by decide +kernel
theorem dX4_paintBlur_61 : decode cX4_paintBlur 61 = .ok (.istore 7, 2) := by decide +kernel
theorem dX4_paintBlur_63 : decode cX4_paintBlur 63 = .ok (.iinc 8 1, 3) := by decide +kernel
theorem dX4_paintBlur_66 : decode cX4_paintBlur 66 = .ok (.iinc 9 1, 3) := by decide +kernel
theorem dX4_paintBlur_69 : decode cX4_paintBlur 69 = .ok (.goto (-24), 3) := by decide +kernel
theorem dX4_paintBlur_72 : decode cX4_paintBlur 72 = .ok (.aload_n 2, 1) := by decide +kernel
theorem dX4_paintBlur_73 : decode cX4_paintBlur 73 = .ok (.iload_n 3, 1) := by decide +kernel
theorem dX4_paintBlur_74 : decode cX4_paintBlur 74 = .ok (.iload 8, 2) := by decide +kernel
theorem dX4_paintBlur_76 : decode cX4_paintBlur 76 = .ok (.ifCond .ne 7, 3) := by decide +kernel
theorem dX4_paintBlur_79 : decode cX4_paintBlur 79 = .ok (.iconst 0, 1) := by decide +kernel
theorem dX4_paintBlur_80 : decode cX4_paintBlur 80 = .ok (.goto 8, 3) := by decide +kernel
theorem dX4_paintBlur_83 : decode cX4_paintBlur 83 = .ok (.iload 7, 2) := by decide +kernel
theorem dX4_paintBlur_85 : decode cX4_paintBlur 85 = .ok (.iload 8, 2) := by decide +kernel
theorem dX4_paintBlur_87 : decode cX4_paintBlur 87 = .ok (.idiv, 1) := by decide +kernel
theorem dX4_paintBlur_88 : decode cX4_paintBlur 88 = .ok (.iastore, 1) := by decide +kernel
theorem dX4_paintBlur_89 : decode cX4_paintBlur 89 = .ok (.iinc 3 1, 3) := by decide +kernel
theorem dX4_paintBlur_92 : decode cX4_paintBlur 92 = .ok (.goto (-90), 3) := by decide +kernel
theorem dX4_paintBlur_95 : decode cX4_paintBlur 95 = .ok (.return_, 1) := by decide +kernel
theorem dX4_paintInverse_0 : decode cX4_paintInverse 0 = .ok (.iconst 0, 1) := by decide +kernel
theorem dX4_paintInverse_1 : decode cX4_paintInverse 1 = .ok (.istore_n 2, 1) := by decide +kernel
theorem dX4_paintInverse_2 : decode cX4_paintInverse 2 = .ok (.iload_n 2, 1) := by decide +kernel
theorem dX4_paintInverse_3 : decode cX4_paintInverse 3 = .ok (.bipush 96, 2) := by decide +kernel
theorem dX4_paintInverse_5 : decode cX4_paintInverse 5 = .ok (.if_icmp .ge 19, 3) := by decide +kernel
theorem dX4_paintInverse_8 : decode cX4_paintInverse 8 = .ok (.aload_n 1, 1) := by decide +kernel
theorem dX4_paintInverse_9 : decode cX4_paintInverse 9 = .ok (.iload_n 2, 1) := by decide +kernel
theorem dX4_paintInverse_10 : decode cX4_paintInverse 10 = .ok (.sipush 255, 3) := by decide +kernel
theorem dX4_paintInverse_13 : decode cX4_paintInverse 13 = .ok (.aload_n 0, 1) := by decide +kernel
theorem dX4_paintInverse_14 : decode cX4_paintInverse 14 = .ok (.iload_n 2, 1) := by decide +kernel
theorem dX4_paintInverse_15 : decode cX4_paintInverse 15 = .ok (.iaload, 1) := by decide +kernel
theorem dX4_paintInverse_16 : decode cX4_paintInverse 16 = .ok (.isub, 1) := by decide +kernel
theorem dX4_paintInverse_17 : decode cX4_paintInverse 17 = .ok (.iastore, 1) := by decide +kernel
theorem dX4_paintInverse_18 : decode cX4_paintInverse 18 = .ok (.iinc 2 1, 3) := by decide +kernel
theorem dX4_paintInverse_21 : decode cX4_paintInverse 21 = .ok (.goto (-19), 3) := by decide +kernel
theorem dX4_paintInverse_24 : decode cX4_paintInverse 24 = .ok (.return_, 1) := by decide +kernel
theorem dX4_paintKey_0 : decode cX4_paintKey 0 = .ok (.aload_n 0, 1) := by decide +kernel
theorem dX4_paintKey_1 : decode cX4_paintKey 1 = .ok (.iconst 0, 1) := by decide +kernel
theorem dX4_paintKey_2 : decode cX4_paintKey 2 = .ok (.iaload, 1) := by decide +kernel
theorem dX4_paintKey_3 : decode cX4_paintKey 3 = .ok (.bipush 32, 2) := by decide +kernel
theorem dX4_paintKey_5 : decode cX4_paintKey 5 = .ok (.imul, 1) := by decide +kernel
theorem dX4_paintKey_6 : decode cX4_paintKey 6 = .ok (.istore_n 3, 1) := by decide +kernel
theorem dX4_paintKey_7 : decode cX4_paintKey 7 = .ok (.iconst 0, 1) := by decide +kernel
theorem dX4_paintKey_8 : decode cX4_paintKey 8 = .ok (.istore 4, 2) := by decide +kernel
theorem dX4_paintKey_10 : decode cX4_paintKey 10 = .ok (.iload 4, 2) := by decide +kernel
theorem dX4_paintKey_12 : decode cX4_paintKey 12 = .ok (.bipush 32, 2) := by decide +kernel
theorem dX4_paintKey_14 : decode cX4_paintKey 14 = .ok (.if_icmp .ge 56, 3) := by decide +kernel
theorem dX4_paintKey_17 : decode cX4_paintKey 17 = .ok (.aload_n 1, 1) := by decide +kernel
theorem dX4_paintKey_18 : decode cX4_paintKey 18 = .ok (.iload_n 3, 1) := by decide +kernel
theorem dX4_paintKey_19 : decode cX4_paintKey 19 = .ok (.iload 4, 2) := by decide +kernel
theorem dX4_paintKey_21 : decode cX4_paintKey 21 = .ok (.iadd, 1) := by decide +kernel
theorem dX4_paintKey_22 : decode cX4_paintKey 22 = .ok (.iaload, 1) := by decide +kernel
theorem dX4_paintKey_23 : decode cX4_paintKey 23 = .ok (.aload_n 0, 1) := by decide +kernel
theorem dX4_paintKey_24 : decode cX4_paintKey 24 = .ok (.iconst 1, 1) := by decide +kernel
theorem dX4_paintKey_25 : decode cX4_paintKey 25 = .ok (.iaload, 1) := by decide +kernel
theorem dX4_paintKey_26 : decode cX4_paintKey 26 = .ok (.aload_n 0, 1) := by decide +kernel
theorem dX4_paintKey_27 : decode cX4_paintKey 27 = .ok (.iconst 2, 1) := by decide +kernel
theorem dX4_paintKey_28 : decode cX4_paintKey 28 = .ok (.iaload, 1) := by decide +kernel
theorem dX4_paintKey_29 : decode cX4_paintKey 29 = .ok (.aload_n 0, 1) := by decide +kernel
theorem dX4_paintKey_30 : decode cX4_paintKey 30 = .ok (.iconst 3, 1) := by decide +kernel
theorem dX4_paintKey_31 : decode cX4_paintKey 31 = .ok (.iaload, 1) := by decide +kernel
theorem dX4_paintKey_32 : decode cX4_paintKey 32 = .ok (.invokestatic 54, 3) := by decide +kernel
theorem dX4_paintKey_35 : decode cX4_paintKey 35 = .ok (.istore 5, 2) := by decide +kernel
theorem dX4_paintKey_37 : decode cX4_paintKey 37 = .ok (.iconst 0, 1) := by decide +kernel
theorem dX4_paintKey_38 : decode cX4_paintKey 38 = .ok (.istore 6, 2) := by decide +kernel
theorem dX4_paintKey_40 : decode cX4_paintKey 40 = .ok (.iload 6, 2) := by decide +kernel
theorem dX4_paintKey_42 : decode cX4_paintKey 42 = .ok (.iconst 3, 1) := by decide +kernel
theorem dX4_paintKey_43 : decode cX4_paintKey 43 = .ok (.if_icmp .ge 21, 3) := by decide +kernel
theorem dX4_paintKey_46 : decode cX4_paintKey 46 = .ok (.aload_n 2, 1) := by decide +kernel
theorem dX4_paintKey_47 : decode cX4_paintKey 47 = .ok (.iload 6, 2) := by decide +kernel
theorem dX4_paintKey_49 : decode cX4_paintKey 49 = .ok (.bipush 32, 2) := by decide +kernel
theorem dX4_paintKey_51 : decode cX4_paintKey 51 = .ok (.imul, 1) := by decide +kernel
theorem dX4_paintKey_52 : decode cX4_paintKey 52 = .ok (.iload 4, 2) := by decide +kernel
theorem dX4_paintKey_54 : decode cX4_paintKey 54 = .ok (.iadd, 1) := by decide +kernel
theorem dX4_paintKey_55 : decode cX4_paintKey 55 = .ok (.iload 5, 2) := by decide +kernel
theorem dX4_paintKey_57 : decode cX4_paintKey 57 = .ok (.iastore, 1) := by decide +kernel
theorem dX4_paintKey_58 : decode cX4_paintKey 58 = .ok (.iinc 6 1, 3) := by decide +kernel
theorem dX4_paintKey_61 : decode cX4_paintKey 61 = .ok (.goto (-21), 3) := by decide +kernel
theorem dX4_paintKey_64 : decode cX4_paintKey 64 = .ok (.iinc 4 1, 3) := by decide +kernel
theorem dX4_paintKey_67 : decode cX4_paintKey 67 = .ok (.goto (-57), 3) := by decide +kernel
theorem dX4_paintKey_70 : decode cX4_paintKey 70 = .ok (.return_, 1) := by decide +kernel
theorem dX4_paintSource_0 : decode cX4_paintSource 0 = .ok (.iconst 0, 1) := by decide +kernel
theorem dX4_paintSource_1 : decode cX4_paintSource 1 = .ok (.istore_n 3, 1) := by decide +kernel
theorem dX4_paintSource_2 : decode cX4_paintSource 2 = .ok (.iload_n 3, 1) := by decide +kernel
theorem dX4_paintSource_3 : decode cX4_paintSource 3 = .ok (.bipush 96, 2) := by decide +kernel
theorem dX4_paintSource_5 : decode cX4_paintSource 5 = .ok (.if_icmp .ge 75, 3) := by decide +kernel
theorem dX4_paintSource_8 : decode cX4_paintSource 8 = .ok (.iload_n 3, 1) := by decide +kernel
theorem dX4_paintSource_9 : decode cX4_paintSource 9 = .ok (.bipush 8, 2) := by decide +kernel
theorem dX4_paintSource_11 : decode cX4_paintSource 11 = .ok (.irem, 1) := by decide +kernel
theorem dX4_paintSource_12 : decode cX4_paintSource 12 = .ok (.istore 4, 2) := by decide +kernel
theorem dX4_paintSource_14 : decode cX4_paintSource 14 = .ok (.iload_n 3, 1) := by decide +kernel
theorem dX4_paintSource_15 : decode cX4_paintSource 15 = .ok (.bipush 8, 2) := by decide +kernel
theorem dX4_paintSource_17 : decode cX4_paintSource 17 = .ok (.idiv, 1) := by decide +kernel
theorem dX4_paintSource_18 : decode cX4_paintSource 18 = .ok (.iconst 4, 1) := by decide +kernel
theorem dX4_paintSource_19 : decode cX4_paintSource 19 = .ok (.irem, 1) := by decide +kernel
theorem dX4_paintSource_20 : decode cX4_paintSource 20 = .ok (.istore 5, 2) := by decide +kernel
theorem dX4_paintSource_22 : decode cX4_paintSource 22 = .ok (.iload_n 3, 1) := by decide +kernel
theorem dX4_paintSource_23 : decode cX4_paintSource 23 = .ok (.bipush 32, 2) := by decide +kernel
theorem dX4_paintSource_25 : decode cX4_paintSource 25 = .ok (.idiv, 1) := by decide +kernel
theorem dX4_paintSource_26 : decode cX4_paintSource 26 = .ok (.istore 6, 2) := by decide +kernel
theorem dX4_paintSource_28 : decode cX4_paintSource 28 = .ok (.bipush 7, 2) := by decide +kernel
theorem dX4_paintSource_30 : decode cX4_paintSource 30 = .ok (.iload_n 0, 1) := by decide +kernel
theorem dX4_paintSource_31 : decode cX4_paintSource 31 = .ok (.imul, 1) := by decide +kernel
theorem dX4_paintSource_32 : decode cX4_paintSource 32 = .ok (.bipush 31, 2) := by decide +kernel
theorem dX4_paintSource_34 : decode cX4_paintSource 34 = .ok (.iload 4, 2) := by decide +kernel
theorem dX4_paintSource_36 : decode cX4_paintSource 36 = .ok (.imul, 1) := by decide +kernel
theorem dX4_paintSource_37 : decode cX4_paintSource 37 = .ok (.iadd, 1) := by decide +kernel
theorem dX4_paintSource_38 : decode cX4_paintSource 38 = .ok (.bipush 17, 2) := by decide +kernel
theorem dX4_paintSource_40 : decode cX4_paintSource 40 = .ok (.iload 5, 2) := by decide +kernel
theorem dX4_paintSource_42 : decode cX4_paintSource 42 = .ok (.imul, 1) := by decide +kernel
theorem dX4_paintSource_43 : decode cX4_paintSource 43 = .ok (.iadd, 1) := by decide +kernel
theorem dX4_paintSource_44 : decode cX4_paintSource 44 = .ok (.bipush 11, 2) := by decide +kernel
theorem dX4_paintSource_46 : decode cX4_paintSource 46 = .ok (.iload_n 1, 1) := by decide +kernel
theorem dX4_paintSource_47 : decode cX4_paintSource 47 = .ok (.imul, 1) := by decide +kernel
theorem dX4_paintSource_48 : decode cX4_paintSource 48 = .ok (.iadd, 1) := by decide +kernel
theorem dX4_paintSource_49 : decode cX4_paintSource 49 = .ok (.bipush 53, 2) := by decide +kernel
theorem dX4_paintSource_51 : decode cX4_paintSource 51 = .ok (.iload 6, 2) := by decide +kernel
theorem dX4_paintSource_53 : decode cX4_paintSource 53 = .ok (.imul, 1) := by decide +kernel
theorem dX4_paintSource_54 : decode cX4_paintSource 54 = .ok (.iadd, 1) := by decide +kernel
theorem dX4_paintSource_55 : decode cX4_paintSource 55 = .ok (.iload 4, 2) := by decide +kernel
theorem dX4_paintSource_57 : decode cX4_paintSource 57 = .ok (.iload 5, 2) := by decide +kernel
theorem dX4_paintSource_59 : decode cX4_paintSource 59 = .ok (.imul, 1) := by decide +kernel
theorem dX4_paintSource_60 : decode cX4_paintSource 60 = .ok (.iload_n 1, 1) := by decide +kernel
theorem dX4_paintSource_61 : decode cX4_paintSource 61 = .ok (.imul, 1) := by decide +kernel
theorem dX4_paintSource_62 : decode cX4_paintSource 62 = .ok (.iadd, 1) := by decide +kernel
theorem dX4_paintSource_63 : decode cX4_paintSource 63 = .ok (.istore 7, 2) := by decide +kernel
theorem dX4_paintSource_65 : decode cX4_paintSource 65 = .ok (.aload_n 2, 1) := by decide +kernel
theorem dX4_paintSource_66 : decode cX4_paintSource 66 = .ok (.iload_n 3, 1) := by decide +kernel
theorem dX4_paintSource_67 : decode cX4_paintSource 67 = .ok (.iload 7, 2) := by decide +kernel
theorem dX4_paintSource_69 : decode cX4_paintSource 69 = .ok (.sipush 256, 3) := by decide +kernel
theorem dX4_paintSource_72 : decode cX4_paintSource 72 = .ok (.irem, 1) := by decide +kernel
theorem dX4_paintSource_73 : decode cX4_paintSource 73 = .ok (.iastore, 1) := by decide +kernel
theorem dX4_paintSource_74 : decode cX4_paintSource 74 = .ok (.iinc 3 1, 3) := by decide +kernel
theorem dX4_paintSource_77 : decode cX4_paintSource 77 = .ok (.goto (-75), 3) := by decide +kernel
theorem dX4_paintSource_80 : decode cX4_paintSource 80 = .ok (.return_, 1) := by decide +kernel
theorem dX5_init_0 : decode cX5_init 0 = .ok (.aload_n 0, 1) := by decide +kernel
theorem dX5_init_1 : decode cX5_init 1 = .ok (.invokespecial 3, 3) := by decide +kernel
theorem dX5_init_4 : decode cX5_init 4 = .ok (.aload_n 0, 1) := by decide +kernel
theorem dX5_init_5 : decode cX5_init 5 = .ok (.bipush 96, 2) := by decide +kernel
theorem dX5_init_7 : decode cX5_init 7 = .ok (.newarray .int, 2) := by decide +kernel
theorem dX5_init_9 : decode cX5_init 9 = .ok (.putfield 9, 3) := by decide +kernel
theorem dX5_init_12 : decode cX5_init 12 = .ok (.return_, 1) := by decide +kernel
theorem dX6_expect_0 : decode cX6_expect 0 = .ok (.aload_n 0, 1) := by decide +kernel
theorem dX6_expect_1 : decode cX6_expect 1 = .ok (.getfield 39, 3) := by decide +kernel
theorem dX6_expect_4 : decode cX6_expect 4 = .ok (.ifCond .ne 31, 3) := by decide +kernel
theorem dX6_expect_7 : decode cX6_expect 7 = .ok (.aload_n 0, 1) := by decide +kernel
theorem dX6_expect_8 : decode cX6_expect 8 = .ok (.getfield 12, 3) := by decide +kernel
theorem dX6_expect_11 : decode cX6_expect 11 = .ok (.aload_n 0, 1) := by decide +kernel
theorem dX6_expect_12 : decode cX6_expect 12 = .ok (.getfield 36, 3) := by decide +kernel
theorem dX6_expect_15 : decode cX6_expect 15 = .ok (.invokevirtual 65, 3) := by decide +kernel
theorem dX6_expect_18 : decode cX6_expect 18 = .ok (.iload_n 1, 1) := by decide +kernel
theorem dX6_expect_19 : decode cX6_expect 19 = .ok (.if_icmp .ne 16, 3) := by decide +kernel
theorem dX6_expect_22 : decode cX6_expect 22 = .ok (.aload_n 0, 1) := by decide +kernel
theorem dX6_expect_23 : decode cX6_expect 23 = .ok (.dup, 1) := by decide +kernel
theorem dX6_expect_24 : decode cX6_expect 24 = .ok (.getfield 36, 3) := by decide +kernel
theorem dX6_expect_27 : decode cX6_expect 27 = .ok (.iconst 1, 1) := by decide +kernel
theorem dX6_expect_28 : decode cX6_expect 28 = .ok (.iadd, 1) := by decide +kernel
theorem dX6_expect_29 : decode cX6_expect 29 = .ok (.putfield 36, 3) := by decide +kernel
theorem dX6_expect_32 : decode cX6_expect 32 = .ok (.goto 8, 3) := by decide +kernel
theorem dX6_expect_35 : decode cX6_expect 35 = .ok (.aload_n 0, 1) := by decide +kernel
theorem dX6_expect_36 : decode cX6_expect 36 = .ok (.iconst 1, 1) := by decide +kernel
theorem dX6_expect_37 : decode cX6_expect 37 = .ok (.putfield 39, 3) := by decide +kernel
theorem dX6_expect_40 : decode cX6_expect 40 = .ok (.return_, 1) := by decide +kernel
theorem dX6_expression_0 : decode cX6_expression 0 = .ok (.aload_n 0, 1) := by decide +kernel
theorem dX6_expression_1 : decode cX6_expression 1 = .ok (.invokevirtual 50, 3) := by decide +kernel
theorem dX6_expression_4 : decode cX6_expression 4 = .ok (.istore_n 2, 1) := by decide +kernel
theorem dX6_expression_5 : decode cX6_expression 5 = .ok (.aload_n 0, 1) := by decide +kernel
theorem dX6_expression_6 : decode cX6_expression 6 = .ok (.getfield 39, 3) := by decide +kernel
theorem dX6_expression_9 : decode cX6_expression 9 = .ok (.ifCond .ne 16, 3) := by decide +kernel
theorem dX6_expression_12 : decode cX6_expression 12 = .ok (.iload_n 2, 1) := by decide +kernel
theorem dX6_expression_13 : decode cX6_expression 13 = .ok (.sipush (-1005), 3) := by decide +kernel
theorem dX6_expression_16 : decode cX6_expression 16 = .ok (.if_icmp .eq 9, 3) := by decide +kernel
theorem dX6_expression_19 : decode cX6_expression 19 = .ok (.iload_n 1, 1) := by decide +kernel
theorem dX6_expression_20 : decode cX6_expression 20 = .ok (.bipush 6, 2) := by decide +kernel
theorem dX6_expression_22 : decode cX6_expression 22 = .ok (.if_icmp .lt 12, 3) := by decide +kernel
theorem dX6_expression_25 : decode cX6_expression 25 = .ok (.aload_n 0, 1) := by decide +kernel
theorem dX6_expression_26 : decode cX6_expression 26 = .ok (.iconst 1, 1) := by decide +kernel
theorem dX6_expression_27 : decode cX6_expression 27 = .ok (.putfield 39, 3) := by decide +kernel
theorem dX6_expression_30 : decode cX6_expression 30 = .ok (.sipush (-1005), 3) := by decide +kernel
theorem dX6_expression_33 : decode cX6_expression 33 = .ok (.ireturn, 1) := by decide +kernel
theorem dX6_expression_34 : decode cX6_expression 34 = .ok (.aload_n 0, 1) := by decide +kernel
theorem dX6_expression_35 : decode cX6_expression 35 = .ok (.dup, 1) := by decide +kernel
theorem dX6_expression_36 : decode cX6_expression 36 = .ok (.getfield 36, 3) := by decide +kernel
theorem dX6_expression_39 : decode cX6_expression 39 = .ok (.iconst 1, 1) := by decide +kernel
theorem dX6_expression_40 : decode cX6_expression 40 = .ok (.iadd, 1) := by decide +kernel
theorem dX6_expression_41 : decode cX6_expression 41 = .ok (.putfield 36, 3) := by decide +kernel
theorem dX6_expression_44 : decode cX6_expression 44 = .ok (.aload_n 0, 1) := by decide +kernel
theorem dX6_expression_45 : decode cX6_expression 45 = .ok (.bipush 40, 2) := by decide +kernel
theorem dX6_expression_47 : decode cX6_expression 47 = .ok (.invokevirtual 54, 3) := by decide +kernel
theorem dX6_expression_50 : decode cX6_expression 50 = .ok (.iload_n 2, 1) := by decide +kernel
theorem dX6_expression_51 : decode cX6_expression 51 = .ok (.bipush 7, 2) := by decide +kernel
theorem dX6_expression_53 : decode cX6_expression 53 = .ok (.if_icmp .ne 17, 3) := by decide +kernel
theorem dX6_expression_56 : decode cX6_expression 56 = .ok (.aload_n 0, 1) := by decide +kernel
theorem dX6_expression_57 : decode cX6_expression 57 = .ok (.iconst 0, 1) := by decide +kernel
theorem dX6_expression_58 : decode cX6_expression 58 = .ok (.aload_n 0, 1) := by decide +kernel
theorem dX6_expression_59 : decode cX6_expression 59 = .ok (.getfield 29, 3) := by decide +kernel
theorem dX6_expression_62 : decode cX6_expression 62 = .ok (.iconst 1, 1) := by decide +kernel
theorem dX6_expression_63 : decode cX6_expression 63 = .ok (.isub, 1) := by decide +kernel
theorem dX6_expression_64 : decode cX6_expression 64 = .ok (.invokevirtual 58, 3) := by decide +kernel
theorem dX6_expression_67 : decode cX6_expression 67 = .ok (.goto 11, 3) := by decide +kernel
theorem dX6_expression_70 : decode cX6_expression 70 = .ok (.aload_n 0, 1) := by decide +kernel
theorem dX6_expression_71 : decode cX6_expression 71 = .ok (.iload_n 2, 1) := by decide +kernel
theorem dX6_expression_72 : decode cX6_expression 72 = .ok (.iload_n 1, 1) := by decide +kernel
theorem dX6_expression_73 : decode cX6_expression 73 = .ok (.iconst 1, 1) := by decide +kernel
theorem dX6_expression_74 : decode cX6_expression 74 = .ok (.iadd, 1) := by decide +kernel
theorem dX6_expression_75 : decode cX6_expression 75 = .ok (.invokevirtual 62, 3) := by decide +kernel
theorem dX6_expression_78 : decode cX6_expression 78 = .ok (.istore_n 3, 1) := by decide +kernel
theorem dX6_expression_79 : decode cX6_expression 79 = .ok (.aload_n 0, 1) := by decide +kernel
theorem dX6_expression_80 : decode cX6_expression 80 = .ok (.bipush 41, 2) := by decide +kernel
theorem dX6_expression_82 : decode cX6_expression 82 = .ok (.invokevirtual 54, 3) := by decide +kernel
theorem dX6_expression_85 : decode cX6_expression 85 = .ok (.iload_n 3, 1) := by decide +kernel
theorem dX6_expression_86 : decode cX6_expression 86 = .ok (.ireturn, 1) := by decide +kernel
theorem dX6_fill_0 : decode cX6_fill 0 = .ok (.aload_n 1, 1) := by decide +kernel
theorem dX6_fill_1 : decode cX6_fill 1 = .ok (.iload_n 2, 1) := by decide +kernel
theorem dX6_fill_2 : decode cX6_fill 2 = .ok (.invokevirtual 95, 3) := by decide +kernel
theorem dX6_fill_5 : decode cX6_fill 5 = .ok (.aload_n 1, 1) := by decide +kernel
theorem dX6_fill_6 : decode cX6_fill 6 = .ok (.getfield 98, 3) := by decide +kernel
theorem dX6_fill_9 : decode cX6_fill 9 = .ok (.iconst 0, 1) := by decide +kernel
theorem dX6_fill_10 : decode cX6_fill 10 = .ok (.iload_n 3, 1) := by decide +kernel
theorem dX6_fill_11 : decode cX6_fill 11 = .ok (.iastore, 1) := by decide +kernel
theorem dX6_fill_12 : decode cX6_fill 12 = .ok (.aload_n 1, 1) := by decide +kernel
theorem dX6_fill_13 : decode cX6_fill 13 = .ok (.getfield 98, 3) := by decide +kernel
theorem dX6_fill_16 : decode cX6_fill 16 = .ok (.iconst 1, 1) := by decide +kernel
theorem dX6_fill_17 : decode cX6_fill 17 = .ok (.iload 4, 2) := by decide +kernel
theorem dX6_fill_19 : decode cX6_fill 19 = .ok (.iastore, 1) := by decide +kernel
theorem dX6_fill_20 : decode cX6_fill 20 = .ok (.aload_n 1, 1) := by decide +kernel
theorem dX6_fill_21 : decode cX6_fill 21 = .ok (.getfield 98, 3) := by decide +kernel
theorem dX6_fill_24 : decode cX6_fill 24 = .ok (.iconst 2, 1) := by decide +kernel
theorem dX6_fill_25 : decode cX6_fill 25 = .ok (.iload 5, 2) := by decide +kernel
theorem dX6_fill_27 : decode cX6_fill 27 = .ok (.iastore, 1) := by decide +kernel
theorem dX6_fill_28 : decode cX6_fill 28 = .ok (.iconst 0, 1) := by decide +kernel
theorem dX6_fill_29 : decode cX6_fill 29 = .ok (.istore 6, 2) := by decide +kernel
theorem dX6_fill_31 : decode cX6_fill 31 = .ok (.iload 6, 2) := by decide +kernel
theorem dX6_fill_33 : decode cX6_fill 33 = .ok (.iload_n 2, 1) := by decide +kernel
theorem dX6_fill_34 : decode cX6_fill 34 = .ok (.invokestatic 100, 3) := by decide +kernel
theorem dX6_fill_37 : decode cX6_fill 37 = .ok (.if_icmp .ge 40, 3) := by decide +kernel
theorem dX6_fill_40 : decode cX6_fill 40 = .ok (.iload 6, 2) := by decide +kernel
theorem dX6_fill_42 : decode cX6_fill 42 = .ok (.iload_n 2, 1) := by decide +kernel
theorem dX6_fill_43 : decode cX6_fill 43 = .ok (.invokestatic 83, 3) := by decide +kernel
theorem dX6_fill_46 : decode cX6_fill 46 = .ok (.if_icmp .ge 8, 3) := by decide +kernel
theorem dX6_fill_49 : decode cX6_fill 49 = .ok (.iload 6, 2) := by decide +kernel
theorem dX6_fill_51 : decode cX6_fill 51 = .ok (.goto 4, 3) := by decide +kernel
theorem dX6_fill_54 : decode cX6_fill 54 = .ok (.iconst 0, 1) := by decide +kernel
theorem dX6_fill_55 : decode cX6_fill 55 = .ok (.istore 7, 2) := by decide +kernel
theorem dX6_fill_57 : decode cX6_fill 57 = .ok (.aload_n 1, 1) := by decide +kernel
theorem dX6_fill_58 : decode cX6_fill 58 = .ok (.getfield 103, 3) := by decide +kernel
theorem dX6_fill_61 : decode cX6_fill 61 = .ok (.iload 6, 2) := by decide +kernel
theorem dX6_fill_63 : decode cX6_fill 63 = .ok (.aload_n 0, 1) := by decide +kernel
theorem dX6_fill_64 : decode cX6_fill 64 = .ok (.getfield 18, 3) := by decide +kernel
theorem dX6_fill_67 : decode cX6_fill 67 = .ok (.iload 7, 2) := by decide +kernel
theorem dX6_fill_69 : decode cX6_fill 69 = .ok (.iaload, 1) := by decide +kernel
theorem dX6_fill_70 : decode cX6_fill 70 = .ok (.iastore, 1) := by decide +kernel
theorem dX6_fill_71 : decode cX6_fill 71 = .ok (.iinc 6 1, 3) := by decide +kernel
theorem dX6_fill_74 : decode cX6_fill 74 = .ok (.goto (-43), 3) := by decide +kernel
theorem dX6_fill_77 : decode cX6_fill 77 = .ok (.return_, 1) := by decide +kernel
theorem dX6_init_0 : decode cX6_init 0 = .ok (.aload_n 0, 1) := by decide +kernel
theorem dX6_init_1 : decode cX6_init 1 = .ok (.invokespecial 3, 3) := by decide +kernel
theorem dX6_init_4 : decode cX6_init 4 = .ok (.aload_n 0, 1) := by decide +kernel
theorem dX6_init_5 : decode cX6_init 5 = .ok (.new 9, 3) := by decide +kernel
theorem dX6_init_8 : decode cX6_init 8 = .ok (.dup, 1) := by decide +kernel
theorem dX6_init_9 : decode cX6_init 9 = .ok (.invokespecial 11, 3) := by decide +kernel
theorem dX6_init_12 : decode cX6_init 12 = .ok (.putfield 12, 3) := by decide +kernel
theorem dX6_init_15 : decode cX6_init 15 = .ok (.aload_n 0, 1) := by decide +kernel
theorem dX6_init_16 : decode cX6_init 16 = .ok (.iconst 4, 1) := by decide +kernel
theorem dX6_init_17 : decode cX6_init 17 = .ok (.newarray .int, 2) := by decide +kernel
theorem dX6_init_19 : decode cX6_init 19 = .ok (.putfield 18, 3) := by decide +kernel
theorem dX6_init_22 : decode cX6_init 22 = .ok (.aload_n 0, 1) := by decide +kernel
theorem dX6_init_23 : decode cX6_init 23 = .ok (.bipush 12, 2) := by decide +kernel
theorem dX6_init_25 : decode cX6_init 25 = .ok (.anewarray 22, 3) := by decide +kernel
theorem dX6_init_28 : decode cX6_init 28 = .ok (.putfield 24, 3) := by decide +kernel
theorem dX6_init_31 : decode cX6_init 31 = .ok (.iconst 0, 1) := by decide +kernel
theorem dX6_init_32 : decode cX6_init 32 = .ok (.istore_n 1, 1) := by decide +kernel
theorem dX6_init_33 : decode cX6_init 33 = .ok (.iload_n 1, 1) := by decide +kernel
theorem dX6_init_34 : decode cX6_init 34 = .ok (.bipush 12, 2) := by decide +kernel
theorem dX6_init_36 : decode cX6_init 36 = .ok (.if_icmp .ge 22, 3) := by decide +kernel
theorem dX6_init_39 : decode cX6_init 39 = .ok (.aload_n 0, 1) := by decide +kernel
theorem dX6_init_40 : decode cX6_init 40 = .ok (.getfield 24, 3) := by decide +kernel
theorem dX6_init_43 : decode cX6_init 43 = .ok (.iload_n 1, 1) := by decide +kernel
theorem dX6_init_44 : decode cX6_init 44 = .ok (.new 22, 3) := by decide +kernel
theorem dX6_init_47 : decode cX6_init 47 = .ok (.dup, 1) := by decide +kernel
theorem dX6_init_48 : decode cX6_init 48 = .ok (.invokespecial 28, 3) := by decide +kernel
theorem dX6_init_51 : decode cX6_init 51 = .ok (.aastore, 1) := by decide +kernel
theorem dX6_init_52 : decode cX6_init 52 = .ok (.iinc 1 1, 3) := by decide +kernel
theorem dX6_init_55 : decode cX6_init 55 = .ok (.goto (-22), 3) := by decide +kernel
theorem dX6_init_58 : decode cX6_init 58 = .ok (.return_, 1) := by decide +kernel
theorem dX6_kindHere_0 : decode cX6_kindHere 0 = .ok (.aload_n 0, 1) := by decide +kernel
theorem dX6_kindHere_1 : decode cX6_kindHere 1 = .ok (.getfield 12, 3) := by decide +kernel
theorem dX6_kindHere_4 : decode cX6_kindHere 4 = .ok (.aload_n 0, 1) := by decide +kernel
theorem dX6_kindHere_5 : decode cX6_kindHere 5 = .ok (.getfield 36, 3) := by decide +kernel
theorem dX6_kindHere_8 : decode cX6_kindHere 8 = .ok (.invokevirtual 65, 3) := by decide +kernel
theorem dX6_kindHere_11 : decode cX6_kindHere 11 = .ok (.istore_n 1, 1) := by decide +kernel
theorem dX6_kindHere_12 : decode cX6_kindHere 12 = .ok (.iload_n 1, 1) := by decide +kernel
theorem dX6_kindHere_13 : decode cX6_kindHere 13 = .ok (.ifCond .ge 7, 3) := by decide +kernel
theorem dX6_kindHere_16 : decode cX6_kindHere 16 = .ok (.iconst (-1), 1) := by decide +kernel
theorem dX6_kindHere_17 : decode cX6_kindHere 17 = .ok (.goto 10, 3) := by decide +kernel
theorem dX6_kindHere_20 : decode cX6_kindHere 20 = .ok (.ldc 68, 2) := by decide +kernel
theorem dX6_kindHere_22 : decode cX6_kindHere 22 = .ok (.iload_n 1, 1) := by decide +kernel
theorem dX6_kindHere_23 : decode cX6_kindHere 23 = .ok (.i2c, 1) := by decide +kernel
theorem dX6_kindHere_24 : decode cX6_kindHere 24 = .ok (.invokevirtual 70, 3) := by decide +kernel
theorem dX6_kindHere_27 : decode cX6_kindHere 27 = .ok (.istore_n 2, 1) := by decide +kernel
theorem dX6_kindHere_28 : decode cX6_kindHere 28 = .ok (.iload_n 2, 1) := by decide +kernel
theorem dX6_kindHere_29 : decode cX6_kindHere 29 = .ok (.ifCond .ge 9, 3) := by decide +kernel
theorem dX6_kindHere_32 : decode cX6_kindHere 32 = .ok (.sipush (-1005), 3) := by decide +kernel
theorem dX6_kindHere_35 : decode cX6_kindHere 35 = .ok (.goto 4, 3) := by decide +kernel
theorem dX6_kindHere_38 : decode cX6_kindHere 38 = .ok (.iload_n 2, 1) := by decide +kernel
theorem dX6_kindHere_39 : decode cX6_kindHere 39 = .ok (.ireturn, 1) := by decide +kernel
theorem dX6_newNode_0 : decode cX6_newNode 0 = .ok (.iload_n 1, 1) := by decide +kernel
theorem dX6_newNode_1 : decode cX6_newNode 1 = .ok (.invokestatic 75, 3) := by decide +kernel
theorem dX6_newNode_4 : decode cX6_newNode 4 = .ok (.istore_n 3, 1) := by decide +kernel
theorem dX6_newNode_5 : decode cX6_newNode 5 = .ok (.iload_n 3, 1) := by decide +kernel
theorem dX6_newNode_6 : decode cX6_newNode 6 = .ok (.ifCond .le 11, 3) := by decide +kernel
theorem dX6_newNode_9 : decode cX6_newNode 9 = .ok (.aload_n 0, 1) := by decide +kernel
theorem dX6_newNode_10 : decode cX6_newNode 10 = .ok (.iload_n 2, 1) := by decide +kernel
theorem dX6_newNode_11 : decode cX6_newNode 11 = .ok (.invokevirtual 43, 3) := by decide +kernel
theorem dX6_newNode_14 : decode cX6_newNode 14 = .ok (.goto 6, 3) := by decide +kernel
theorem dX6_newNode_17 : decode cX6_newNode 17 = .ok (.sipush (-1005), 3) := by decide +kernel
theorem dX6_newNode_20 : decode cX6_newNode 20 = .ok (.istore 4, 2) := by decide +kernel
theorem dX6_newNode_22 : decode cX6_newNode 22 = .ok (.iload_n 3, 1) := by decide +kernel
theorem dX6_newNode_23 : decode cX6_newNode 23 = .ok (.iconst 1, 1) := by decide +kernel
theorem dX6_newNode_24 : decode cX6_newNode 24 = .ok (.if_icmp .le 11, 3) := by decide +kernel
theorem dX6_newNode_27 : decode cX6_newNode 27 = .ok (.aload_n 0, 1) := by decide +kernel
theorem dX6_newNode_28 : decode cX6_newNode 28 = .ok (.iload_n 2, 1) := by decide +kernel
theorem dX6_newNode_29 : decode cX6_newNode 29 = .ok (.invokevirtual 80, 3) := by decide +kernel
theorem dX6_newNode_32 : decode cX6_newNode 32 = .ok (.goto 6, 3) := by decide +kernel
theorem dX6_newNode_35 : decode cX6_newNode 35 = .ok (.sipush (-1005), 3) := by decide +kernel
theorem dX6_newNode_38 : decode cX6_newNode 38 = .ok (.istore 5, 2) := by decide +kernel
theorem dX6_newNode_40 : decode cX6_newNode 40 = .ok (.iload_n 3, 1) := by decide +kernel
theorem dX6_newNode_41 : decode cX6_newNode 41 = .ok (.iconst 2, 1) := by decide +kernel
theorem dX6_newNode_42 : decode cX6_newNode 42 = .ok (.if_icmp .le 11, 3) := by decide +kernel
theorem dX6_newNode_45 : decode cX6_newNode 45 = .ok (.aload_n 0, 1) := by decide +kernel
theorem dX6_newNode_46 : decode cX6_newNode 46 = .ok (.iload_n 2, 1) := by decide +kernel
theorem dX6_newNode_47 : decode cX6_newNode 47 = .ok (.invokevirtual 80, 3) := by decide +kernel
theorem dX6_newNode_50 : decode cX6_newNode 50 = .ok (.goto 6, 3) := by decide +kernel
theorem dX6_newNode_53 : decode cX6_newNode 53 = .ok (.sipush (-1005), 3) := by decide +kernel
theorem dX6_newNode_56 : decode cX6_newNode 56 = .ok (.istore 6, 2) := by decide +kernel
theorem dX6_newNode_58 : decode cX6_newNode 58 = .ok (.iconst 0, 1) := by decide +kernel
theorem dX6_newNode_59 : decode cX6_newNode 59 = .ok (.istore 7, 2) := by decide +kernel
theorem dX6_newNode_61 : decode cX6_newNode 61 = .ok (.iload 7, 2) := by decide +kernel
theorem dX6_newNode_63 : decode cX6_newNode 63 = .ok (.iload_n 1, 1) := by decide +kernel
theorem dX6_newNode_64 : decode cX6_newNode 64 = .ok (.invokestatic 83, 3) := by decide +kernel
theorem dX6_newNode_67 : decode cX6_newNode 67 = .ok (.if_icmp .ge 45, 3) := by decide +kernel
theorem dX6_newNode_70 : decode cX6_newNode 70 = .ok (.iload_n 3, 1) := by decide +kernel
theorem dX6_newNode_71 : decode cX6_newNode 71 = .ok (.iload 7, 2) := by decide +kernel
theorem dX6_newNode_73 : decode cX6_newNode 73 = .ok (.iadd, 1) := by decide +kernel
theorem dX6_newNode_74 : decode cX6_newNode 74 = .ok (.ifCond .le 9, 3) := by decide +kernel
theorem dX6_newNode_77 : decode cX6_newNode 77 = .ok (.aload_n 0, 1) := by decide +kernel
theorem dX6_newNode_78 : decode cX6_newNode 78 = .ok (.bipush 44, 2) := by decide +kernel
theorem dX6_newNode_80 : decode cX6_newNode 80 = .ok (.invokevirtual 54, 3) := by decide +kernel
theorem dX6_newNode_83 : decode cX6_newNode 83 = .ok (.aload_n 0, 1) := by decide +kernel
theorem dX6_newNode_84 : decode cX6_newNode 84 = .ok (.getfield 18, 3) := by decide +kernel
theorem dX6_newNode_87 : decode cX6_newNode 87 = .ok (.iload 7, 2) := by decide +kernel
theorem dX6_newNode_89 : decode cX6_newNode 89 = .ok (.aload_n 0, 1) := by decide +kernel
theorem dX6_newNode_90 : decode cX6_newNode 90 = .ok (.iload_n 1, 1) := by decide +kernel
theorem dX6_newNode_91 : decode cX6_newNode 91 = .ok (.iload 7, 2) := by decide +kernel
theorem dX6_newNode_93 : decode cX6_newNode 93 = .ok (.invokestatic 85, 3) := by decide +kernel
theorem dX6_newNode_96 : decode cX6_newNode 96 = .ok (.iload_n 1, 1) := by decide +kernel
theorem dX6_newNode_97 : decode cX6_newNode 97 = .ok (.iload 7, 2) := by decide +kernel
theorem dX6_newNode_99 : decode cX6_newNode 99 = .ok (.invokestatic 88, 3) := by decide +kernel
theorem dX6_newNode_102 : decode cX6_newNode 102 = .ok (.invokevirtual 58, 3) := by decide +kernel
theorem dX6_newNode_105 : decode cX6_newNode 105 = .ok (.iastore, 1) := by decide +kernel
theorem dX6_newNode_106 : decode cX6_newNode 106 = .ok (.iinc 7 1, 3) := by decide +kernel
theorem dX6_newNode_109 : decode cX6_newNode 109 = .ok (.goto (-48), 3) := by decide +kernel
theorem dX6_newNode_112 : decode cX6_newNode 112 = .ok (.aload_n 0, 1) := by decide +kernel
theorem dX6_newNode_113 : decode cX6_newNode 113 = .ok (.getfield 29, 3) := by decide +kernel
theorem dX6_newNode_116 : decode cX6_newNode 116 = .ok (.aload_n 0, 1) := by decide +kernel
theorem dX6_newNode_117 : decode cX6_newNode 117 = .ok (.getfield 33, 3) := by decide +kernel
theorem dX6_newNode_120 : decode cX6_newNode 120 = .ok (.iadd, 1) := by decide +kernel
theorem dX6_newNode_121 : decode cX6_newNode 121 = .ok (.istore 7, 2) := by decide +kernel
theorem dX6_newNode_123 : decode cX6_newNode 123 = .ok (.aload_n 0, 1) := by decide +kernel
theorem dX6_newNode_124 : decode cX6_newNode 124 = .ok (.getfield 33, 3) := by decide +kernel
theorem dX6_newNode_127 : decode cX6_newNode 127 = .ok (.bipush 12, 2) := by decide +kernel
theorem dX6_newNode_129 : decode cX6_newNode 129 = .ok (.if_icmp .ge 23, 3) := by decide +kernel
theorem dX6_newNode_132 : decode cX6_newNode 132 = .ok (.aload_n 0, 1) := by decide +kernel
theorem dX6_newNode_133 : decode cX6_newNode 133 = .ok (.aload_n 0, 1) := by decide +kernel
theorem dX6_newNode_134 : decode cX6_newNode 134 = .ok (.getfield 24, 3) := by decide +kernel
theorem dX6_newNode_137 : decode cX6_newNode 137 = .ok (.aload_n 0, 1) := by decide +kernel
theorem dX6_newNode_138 : decode cX6_newNode 138 = .ok (.getfield 33, 3) := by decide +kernel
theorem dX6_newNode_141 : decode cX6_newNode 141 = .ok (.aaload, 1) := by decide +kernel
theorem dX6_newNode_142 : decode cX6_newNode 142 = .ok (.iload_n 1, 1) := by decide +kernel
theorem dX6_newNode_143 : decode cX6_newNode 143 = .ok (.iload 4, 2) := by decide +kernel
theorem dX6_newNode_145 : decode cX6_newNode 145 = .ok (.iload 5, 2) := by decide +kernel
theorem dX6_newNode_147 : decode cX6_newNode 147 = .ok (.iload 6, 2) := by decide +kernel
theorem dX6_newNode_149 : decode cX6_newNode 149 = .ok (.invokevirtual 91, 3) := by decide +kernel
theorem dX6_newNode_152 : decode cX6_newNode 152 = .ok (.aload_n 0, 1) := by decide +kernel
theorem dX6_newNode_153 : decode cX6_newNode 153 = .ok (.dup, 1) := by decide +kernel
theorem dX6_newNode_154 : decode cX6_newNode 154 = .ok (.getfield 33, 3) := by decide +kernel
theorem dX6_newNode_157 : decode cX6_newNode 157 = .ok (.iconst 1, 1) := by decide +kernel
theorem dX6_newNode_158 : decode cX6_newNode 158 = .ok (.iadd, 1) := by decide +kernel
theorem dX6_newNode_159 : decode cX6_newNode 159 = .ok (.putfield 33, 3) := by decide +kernel
theorem dX6_newNode_162 : decode cX6_newNode 162 = .ok (.iload 7, 2) := by decide +kernel
theorem dX6_newNode_164 : decode cX6_newNode 164 = .ok (.ireturn, 1) := by decide +kernel
theorem dX6_nextExpression_0 : decode cX6_nextExpression 0 = .ok (.aload_n 0, 1) := by decide +kernel
theorem dX6_nextExpression_1 : decode cX6_nextExpression 1 = .ok (.bipush 44, 2) := by decide +kernel
theorem dX6_nextExpression_3 : decode cX6_nextExpression 3 = .ok (.invokevirtual 54, 3) := by decide +kernel
theorem dX6_nextExpression_6 : decode cX6_nextExpression 6 = .ok (.aload_n 0, 1) := by decide +kernel
theorem dX6_nextExpression_7 : decode cX6_nextExpression 7 = .ok (.iload_n 1, 1) := by decide +kernel
theorem dX6_nextExpression_8 : decode cX6_nextExpression 8 = .ok (.invokevirtual 43, 3) := by decide +kernel
theorem dX6_nextExpression_11 : decode cX6_nextExpression 11 = .ok (.ireturn, 1) := by decide +kernel
theorem dX6_read_0 : decode cX6_read 0 = .ok (.aload_n 0, 1) := by decide +kernel
theorem dX6_read_1 : decode cX6_read 1 = .ok (.iload_n 1, 1) := by decide +kernel
theorem dX6_read_2 : decode cX6_read 2 = .ok (.putfield 29, 3) := by decide +kernel
theorem dX6_read_5 : decode cX6_read 5 = .ok (.aload_n 0, 1) := by decide +kernel
theorem dX6_read_6 : decode cX6_read 6 = .ok (.iconst 0, 1) := by decide +kernel
theorem dX6_read_7 : decode cX6_read 7 = .ok (.putfield 33, 3) := by decide +kernel
theorem dX6_read_10 : decode cX6_read 10 = .ok (.aload_n 0, 1) := by decide +kernel
theorem dX6_read_11 : decode cX6_read 11 = .ok (.iconst 0, 1) := by decide +kernel
theorem dX6_read_12 : decode cX6_read 12 = .ok (.putfield 36, 3) := by decide +kernel
theorem dX6_read_15 : decode cX6_read 15 = .ok (.aload_n 0, 1) := by decide +kernel
theorem dX6_read_16 : decode cX6_read 16 = .ok (.iconst 0, 1) := by decide +kernel
theorem dX6_read_17 : decode cX6_read 17 = .ok (.putfield 39, 3) := by decide +kernel
theorem dX6_read_20 : decode cX6_read 20 = .ok (.aload_n 0, 1) := by decide +kernel
theorem dX6_read_21 : decode cX6_read 21 = .ok (.iconst 0, 1) := by decide +kernel
theorem dX6_read_22 : decode cX6_read 22 = .ok (.invokevirtual 43, 3) := by decide +kernel
theorem dX6_read_25 : decode cX6_read 25 = .ok (.istore_n 2, 1) := by decide +kernel
theorem dX6_read_26 : decode cX6_read 26 = .ok (.aload_n 0, 1) := by decide +kernel
theorem dX6_read_27 : decode cX6_read 27 = .ok (.getfield 36, 3) := by decide +kernel
theorem dX6_read_30 : decode cX6_read 30 = .ok (.aload_n 0, 1) := by decide +kernel
theorem dX6_read_31 : decode cX6_read 31 = .ok (.getfield 12, 3) := by decide +kernel
theorem dX6_read_34 : decode cX6_read 34 = .ok (.getfield 47, 3) := by decide +kernel
theorem dX6_read_37 : decode cX6_read 37 = .ok (.if_icmp .ge 8, 3) := by decide +kernel
theorem dX6_read_40 : decode cX6_read 40 = .ok (.aload_n 0, 1) := by decide +kernel
theorem dX6_read_41 : decode cX6_read 41 = .ok (.iconst 1, 1) := by decide +kernel
theorem dX6_read_42 : decode cX6_read 42 = .ok (.putfield 39, 3) := by decide +kernel
theorem dX6_read_45 : decode cX6_read 45 = .ok (.iload_n 2, 1) := by decide +kernel
theorem dX6_read_46 : decode cX6_read 46 = .ok (.ireturn, 1) := by decide +kernel
theorem dX6_readDigits_0 : decode cX6_readDigits 0 = .ok (.iconst 0, 1) := by decide +kernel
theorem dX6_readDigits_1 : decode cX6_readDigits 1 = .ok (.istore_n 1, 1) := by decide +kernel
theorem dX6_readDigits_2 : decode cX6_readDigits 2 = .ok (.iconst 0, 1) := by decide +kernel
theorem dX6_readDigits_3 : decode cX6_readDigits 3 = .ok (.istore_n 2, 1) := by decide +kernel
theorem dX6_readDigits_4 : decode cX6_readDigits 4 = .ok (.iload_n 2, 1) := by decide +kernel
theorem dX6_readDigits_5 : decode cX6_readDigits 5 = .ok (.iconst 3, 1) := by decide +kernel
theorem dX6_readDigits_6 : decode cX6_readDigits 6 = .ok (.if_icmp .ge 75, 3) := by decide +kernel
theorem dX6_readDigits_9 : decode cX6_readDigits 9 = .ok (.aload_n 0, 1) := by decide +kernel
theorem dX6_readDigits_10 : decode cX6_readDigits 10 = .ok (.getfield 12, 3) := by decide +kernel
theorem dX6_readDigits_13 : decode cX6_readDigits 13 = .ok (.aload_n 0, 1) := by decide +kernel
theorem dX6_readDigits_14 : decode cX6_readDigits 14 = .ok (.getfield 36, 3) := by decide +kernel
theorem dX6_readDigits_17 : decode cX6_readDigits 17 = .ok (.invokevirtual 65, 3) := by decide +kernel
theorem dX6_readDigits_20 : decode cX6_readDigits 20 = .ok (.istore_n 3, 1) := by decide +kernel
theorem dX6_readDigits_21 : decode cX6_readDigits 21 = .ok (.iload_n 2, 1) := by decide +kernel
theorem dX6_readDigits_22 : decode cX6_readDigits 22 = .ok (.ifCond .le 11, 3) := by decide +kernel
theorem dX6_readDigits_25 : decode cX6_readDigits 25 = .ok (.iload_n 1, 1) := by decide +kernel
theorem dX6_readDigits_26 : decode cX6_readDigits 26 = .ok (.ifCond .ne 7, 3) := by decide +kernel
theorem dX6_readDigits_29 : decode cX6_readDigits 29 = .ok (.iconst 1, 1) := by decide +kernel
theorem dX6_readDigits_30 : decode cX6_readDigits 30 = .ok (.goto 4, 3) := by decide +kernel
theorem dX6_readDigits_33 : decode cX6_readDigits 33 = .ok (.iconst 0, 1) := by decide +kernel
theorem dX6_readDigits_34 : decode cX6_readDigits 34 = .ok (.istore 4, 2) := by decide +kernel
theorem dX6_readDigits_36 : decode cX6_readDigits 36 = .ok (.iload_n 3, 1) := by decide +kernel
theorem dX6_readDigits_37 : decode cX6_readDigits 37 = .ok (.bipush 48, 2) := by decide +kernel
theorem dX6_readDigits_39 : decode cX6_readDigits 39 = .ok (.bipush 57, 2) := by decide +kernel
theorem dX6_readDigits_41 : decode cX6_readDigits 41 = .ok (.invokestatic 108, 3) := by decide +kernel
theorem dX6_readDigits_44 : decode cX6_readDigits 44 = .ok (.ifCond .eq 37, 3) := by decide +kernel
theorem dX6_readDigits_47 : decode cX6_readDigits 47 = .ok (.iload 4, 2) := by decide +kernel
theorem dX6_readDigits_49 : decode cX6_readDigits 49 = .ok (.ifCond .eq 6, 3) := by decide +kernel
theorem dX6_readDigits_52 : decode cX6_readDigits 52 = .ok (.goto 29, 3) := by decide +kernel
theorem dX6_readDigits_55 : decode cX6_readDigits 55 = .ok (.iload_n 1, 1) := by decide +kernel
theorem dX6_readDigits_56 : decode cX6_readDigits 56 = .ok (.bipush 10, 2) := by decide +kernel
theorem dX6_readDigits_58 : decode cX6_readDigits 58 = .ok (.imul, 1) := by decide +kernel
theorem dX6_readDigits_59 : decode cX6_readDigits 59 = .ok (.iload_n 3, 1) := by decide +kernel
theorem dX6_readDigits_60 : decode cX6_readDigits 60 = .ok (.iadd, 1) := by decide +kernel
theorem dX6_readDigits_61 : decode cX6_readDigits 61 = .ok (.bipush 48, 2) := by decide +kernel
theorem dX6_readDigits_63 : decode cX6_readDigits 63 = .ok (.isub, 1) := by decide +kernel
theorem dX6_readDigits_64 : decode cX6_readDigits 64 = .ok (.istore_n 1, 1) := by decide +kernel
theorem dX6_readDigits_65 : decode cX6_readDigits 65 = .ok (.aload_n 0, 1) := by decide +kernel
theorem dX6_readDigits_66 : decode cX6_readDigits 66 = .ok (.dup, 1) := by decide +kernel
theorem dX6_readDigits_67 : decode cX6_readDigits 67 = .ok (.getfield 36, 3) := by decide +kernel
theorem dX6_readDigits_70 : decode cX6_readDigits 70 = .ok (.iconst 1, 1) := by decide +kernel
theorem dX6_readDigits_71 : decode cX6_readDigits 71 = .ok (.iadd, 1) := by decide +kernel
theorem dX6_readDigits_72 : decode cX6_readDigits 72 = .ok (.putfield 36, 3) := by decide +kernel
theorem dX6_readDigits_75 : decode cX6_readDigits 75 = .ok (.iinc 2 1, 3) := by decide +kernel
theorem dX6_readDigits_78 : decode cX6_readDigits 78 = .ok (.goto (-74), 3) := by decide +kernel
theorem dX6_readDigits_81 : decode cX6_readDigits 81 = .ok (.iload_n 1, 1) := by decide +kernel
theorem dX6_readDigits_82 : decode cX6_readDigits 82 = .ok (.ireturn, 1) := by decide +kernel
theorem dX6_readNumber_0 : decode cX6_readNumber 0 = .ok (.aload_n 0, 1) := by decide +kernel
theorem dX6_readNumber_1 : decode cX6_readNumber 1 = .ok (.getfield 39, 3) := by decide +kernel
theorem dX6_readNumber_4 : decode cX6_readNumber 4 = .ok (.ifCond .eq 5, 3) := by decide +kernel
theorem dX6_readNumber_7 : decode cX6_readNumber 7 = .ok (.iconst 0, 1) := by decide +kernel
theorem dX6_readNumber_8 : decode cX6_readNumber 8 = .ok (.ireturn, 1) := by decide +kernel
theorem dX6_readNumber_9 : decode cX6_readNumber 9 = .ok (.iload_n 1, 1) := by decide +kernel
theorem dX6_readNumber_10 : decode cX6_readNumber 10 = .ok (.ifCond .ge 23, 3) := by decide +kernel
theorem dX6_readNumber_13 : decode cX6_readNumber 13 = .ok (.aload_n 0, 1) := by decide +kernel
theorem dX6_readNumber_14 : decode cX6_readNumber 14 = .ok (.getfield 12, 3) := by decide +kernel
theorem dX6_readNumber_17 : decode cX6_readNumber 17 = .ok (.aload_n 0, 1) := by decide +kernel
theorem dX6_readNumber_18 : decode cX6_readNumber 18 = .ok (.getfield 36, 3) := by decide +kernel
theorem dX6_readNumber_21 : decode cX6_readNumber 21 = .ok (.invokevirtual 65, 3) := by decide +kernel
theorem dX6_readNumber_24 : decode cX6_readNumber 24 = .ok (.bipush 45, 2) := by decide +kernel
theorem dX6_readNumber_26 : decode cX6_readNumber 26 = .ok (.if_icmp .ne 7, 3) := by decide +kernel
theorem dX6_readNumber_29 : decode cX6_readNumber 29 = .ok (.iconst 1, 1) := by decide +kernel
theorem dX6_readNumber_30 : decode cX6_readNumber 30 = .ok (.goto 4, 3) := by decide +kernel
theorem dX6_readNumber_33 : decode cX6_readNumber 33 = .ok (.iconst 0, 1) := by decide +kernel
theorem dX6_readNumber_34 : decode cX6_readNumber 34 = .ok (.istore_n 3, 1) := by decide +kernel
theorem dX6_readNumber_35 : decode cX6_readNumber 35 = .ok (.iload_n 3, 1) := by decide +kernel
theorem dX6_readNumber_36 : decode cX6_readNumber 36 = .ok (.ifCond .eq 13, 3) := by decide +kernel
theorem dX6_readNumber_39 : decode cX6_readNumber 39 = .ok (.aload_n 0, 1) := by decide +kernel
theorem dX6_readNumber_40 : decode cX6_readNumber 40 = .ok (.dup, 1) := by decide +kernel
theorem dX6_readNumber_41 : decode cX6_readNumber 41 = .ok (.getfield 36, 3) := by decide +kernel
theorem dX6_readNumber_44 : decode cX6_readNumber 44 = .ok (.iconst 1, 1) := by decide +kernel
theorem dX6_readNumber_45 : decode cX6_readNumber 45 = .ok (.iadd, 1) := by decide +kernel
theorem dX6_readNumber_46 : decode cX6_readNumber 46 = .ok (.putfield 36, 3) := by decide +kernel
theorem dX6_readNumber_49 : decode cX6_readNumber 49 = .ok (.aload_n 0, 1) := by decide +kernel
theorem dX6_readNumber_50 : decode cX6_readNumber 50 = .ok (.getfield 36, 3) := by decide +kernel
theorem dX6_readNumber_53 : decode cX6_readNumber 53 = .ok (.istore 4, 2) := by decide +kernel
theorem dX6_readNumber_55 : decode cX6_readNumber 55 = .ok (.aload_n 0, 1) := by decide +kernel
theorem dX6_readNumber_56 : decode cX6_readNumber 56 = .ok (.invokevirtual 105, 3) := by decide +kernel
theorem dX6_readNumber_59 : decode cX6_readNumber 59 = .ok (.istore 5, 2) := by decide +kernel
theorem dX6_readNumber_61 : decode cX6_readNumber 61 = .ok (.aload_n 0, 1) := by decide +kernel
theorem dX6_readNumber_62 : decode cX6_readNumber 62 = .ok (.getfield 36, 3) := by decide +kernel
theorem dX6_readNumber_65 : decode cX6_readNumber 65 = .ok (.iload 4, 2) := by decide +kernel
theorem dX6_readNumber_67 : decode cX6_readNumber 67 = .ok (.if_icmp .ne 11, 3) := by decide +kernel
theorem dX6_readNumber_70 : decode cX6_readNumber 70 = .ok (.aload_n 0, 1) := by decide +kernel
theorem dX6_readNumber_71 : decode cX6_readNumber 71 = .ok (.iconst 1, 1) := by decide +kernel
theorem dX6_readNumber_72 : decode cX6_readNumber 72 = .ok (.putfield 39, 3) := by decide +kernel
theorem dX6_readNumber_75 : decode cX6_readNumber 75 = .ok (.goto 29, 3) := by decide +kernel
theorem dX6_readNumber_78 : decode cX6_readNumber 78 = .ok (.iload 5, 2) := by decide +kernel
theorem dX6_readNumber_80 : decode cX6_readNumber 80 = .ok (.iload_n 2, 1) := by decide +kernel
theorem dX6_readNumber_81 : decode cX6_readNumber 81 = .ok (.if_icmp .gt 12, 3) := by decide +kernel
theorem dX6_readNumber_84 : decode cX6_readNumber 84 = .ok (.iload_n 3, 1) := by decide +kernel
theorem dX6_readNumber_85 : decode cX6_readNumber 85 = .ok (.ifCond .eq 19, 3) := by decide +kernel
theorem dX6_readNumber_88 : decode cX6_readNumber 88 = .ok (.iload 5, 2) := by decide +kernel
theorem dX6_readNumber_90 : decode cX6_readNumber 90 = .ok (.ifCond .ne 14, 3) := by decide +kernel
theorem dX6_readNumber_93 : decode cX6_readNumber 93 = .ok (.aload_n 0, 1) := by decide +kernel
theorem dX6_readNumber_94 : decode cX6_readNumber 94 = .ok (.iload 4, 2) := by decide +kernel
theorem dX6_readNumber_96 : decode cX6_readNumber 96 = .ok (.putfield 36, 3) := by decide +kernel
theorem dX6_readNumber_99 : decode cX6_readNumber 99 = .ok (.aload_n 0, 1) := by decide +kernel
theorem dX6_readNumber_100 : decode cX6_readNumber 100 = .ok (.iconst 1, 1) := by decide +kernel
theorem dX6_readNumber_101 : decode cX6_readNumber 101 = .ok (.putfield 39, 3) := by decide +kernel
theorem dX6_readNumber_104 : decode cX6_readNumber 104 = .ok (.iload_n 3, 1) := by decide +kernel
theorem dX6_readNumber_105 : decode cX6_readNumber 105 = .ok (.ifCond .eq 9, 3) := by decide +kernel
theorem dX6_readNumber_108 : decode cX6_readNumber 108 = .ok (.iload 5, 2) := by decide +kernel
theorem dX6_readNumber_110 : decode cX6_readNumber 110 = .ok (.ineg, 1) := by decide +kernel
theorem dX6_readNumber_111 : decode cX6_readNumber 111 = .ok (.goto 5, 3) := by decide +kernel
theorem dX6_readNumber_114 : decode cX6_readNumber 114 = .ok (.iload 5, 2) := by decide +kernel
theorem dX6_readNumber_116 : decode cX6_readNumber 116 = .ok (.ireturn, 1) := by decide +kernel
theorem dX7_different_0 : decode cX7_different 0 = .ok (.iload_n 1, 1) := by decide +kernel
theorem dX7_different_1 : decode cX7_different 1 = .ok (.bipush 32, 2) := by decide +kernel
theorem dX7_different_3 : decode cX7_different 3 = .ok (.imul, 1) := by decide +kernel
theorem dX7_different_4 : decode cX7_different 4 = .ok (.istore_n 2, 1) := by decide +kernel
theorem dX7_different_5 : decode cX7_different 5 = .ok (.iconst 0, 1) := by decide +kernel
theorem dX7_different_6 : decode cX7_different 6 = .ok (.istore_n 3, 1) := by decide +kernel
theorem dX7_different_7 : decode cX7_different 7 = .ok (.iload_n 2, 1) := by decide +kernel
theorem dX7_different_8 : decode cX7_different 8 = .ok (.istore 4, 2) := by decide +kernel
theorem dX7_different_10 : decode cX7_different 10 = .ok (.iload 4, 2) := by decide +kernel
theorem dX7_different_12 : decode cX7_different 12 = .ok (.iload_n 2, 1) := by decide +kernel
theorem dX7_different_13 : decode cX7_different 13 = .ok (.bipush 32, 2) := by decide +kernel
theorem dX7_different_15 : decode cX7_different 15 = .ok (.iadd, 1) := by decide +kernel
theorem dX7_different_16 : decode cX7_different 16 = .ok (.if_icmp .ge 22, 3) := by decide +kernel
theorem dX7_different_19 : decode cX7_different 19 = .ok (.aload_n 0, 1) := by decide +kernel
theorem dX7_different_20 : decode cX7_different 20 = .ok (.iload_n 2, 1) := by decide +kernel
theorem dX7_different_21 : decode cX7_different 21 = .ok (.iload 4, 2) := by decide +kernel
theorem dX7_different_23 : decode cX7_different 23 = .ok (.invokestatic 18, 3) := by decide +kernel
theorem dX7_different_26 : decode cX7_different 26 = .ok (.ifCond .ne 6, 3) := by decide +kernel
theorem dX7_different_29 : decode cX7_different 29 = .ok (.iinc 3 1, 3) := by decide +kernel
theorem dX7_different_32 : decode cX7_different 32 = .ok (.iinc 4 1, 3) := by decide +kernel
theorem dX7_different_35 : decode cX7_different 35 = .ok (.goto (-25), 3) := by decide +kernel
theorem dX7_different_38 : decode cX7_different 38 = .ok (.iload_n 3, 1) := by decide +kernel
theorem dX7_different_39 : decode cX7_different 39 = .ok (.ireturn, 1) := by decide +kernel
theorem dX7_greatest_0 : decode cX7_greatest 0 = .ok (.iload_n 1, 1) := by decide +kernel
theorem dX7_greatest_1 : decode cX7_greatest 1 = .ok (.bipush 32, 2) := by decide +kernel
theorem dX7_greatest_3 : decode cX7_greatest 3 = .ok (.imul, 1) := by decide +kernel
theorem dX7_greatest_4 : decode cX7_greatest 4 = .ok (.istore_n 2, 1) := by decide +kernel
theorem dX7_greatest_5 : decode cX7_greatest 5 = .ok (.iconst 0, 1) := by decide +kernel
theorem dX7_greatest_6 : decode cX7_greatest 6 = .ok (.istore_n 3, 1) := by decide +kernel
theorem dX7_greatest_7 : decode cX7_greatest 7 = .ok (.iconst 0, 1) := by decide +kernel
theorem dX7_greatest_8 : decode cX7_greatest 8 = .ok (.istore 4, 2) := by decide +kernel
theorem dX7_greatest_10 : decode cX7_greatest 10 = .ok (.iload 4, 2) := by decide +kernel
theorem dX7_greatest_12 : decode cX7_greatest 12 = .ok (.bipush 32, 2) := by decide +kernel
theorem dX7_greatest_14 : decode cX7_greatest 14 = .ok (.if_icmp .ge 20, 3) := by decide +kernel
theorem dX7_greatest_17 : decode cX7_greatest 17 = .ok (.iload_n 3, 1) := by decide +kernel
theorem dX7_greatest_18 : decode cX7_greatest 18 = .ok (.aload_n 0, 1) := by decide +kernel
theorem dX7_greatest_19 : decode cX7_greatest 19 = .ok (.iload_n 2, 1) := by decide +kernel
theorem dX7_greatest_20 : decode cX7_greatest 20 = .ok (.iload 4, 2) := by decide +kernel
theorem dX7_greatest_22 : decode cX7_greatest 22 = .ok (.iadd, 1) := by decide +kernel
theorem dX7_greatest_23 : decode cX7_greatest 23 = .ok (.iaload, 1) := by decide +kernel
theorem dX7_greatest_24 : decode cX7_greatest 24 = .ok (.invokestatic 15, 3) := by decide +kernel
theorem dX7_greatest_27 : decode cX7_greatest 27 = .ok (.istore_n 3, 1) := by decide +kernel
theorem dX7_greatest_28 : decode cX7_greatest 28 = .ok (.iinc 4 1, 3) := by decide +kernel
theorem dX7_greatest_31 : decode cX7_greatest 31 = .ok (.goto (-21), 3) := by decide +kernel
theorem dX7_greatest_34 : decode cX7_greatest 34 = .ok (.iload_n 3, 1) := by decide +kernel
theorem dX7_greatest_35 : decode cX7_greatest 35 = .ok (.ireturn, 1) := by decide +kernel
theorem dX7_greatestDifference_0 : decode cX7_greatestDifference 0 = .ok (.iconst 0, 1) := by decide +kernel
theorem dX7_greatestDifference_1 : decode cX7_greatestDifference 1 = .ok (.istore_n 2, 1) := by decide +kernel
theorem dX7_greatestDifference_2 : decode cX7_greatestDifference 2 = .ok (.iconst 0, 1) := by decide +kernel
theorem dX7_greatestDifference_3 : decode cX7_greatestDifference 3 = .ok (.istore_n 3, 1) := by decide +kernel
theorem dX7_greatestDifference_4 : decode cX7_greatestDifference 4 = .ok (.iload_n 3, 1) := by decide +kernel
theorem dX7_greatestDifference_5 : decode cX7_greatestDifference 5 = .ok (.bipush 96, 2) := by decide +kernel
theorem dX7_greatestDifference_7 : decode cX7_greatestDifference 7 = .ok (.if_icmp .ge 24, 3) := by decide +kernel
theorem dX7_greatestDifference_10 : decode cX7_greatestDifference 10 = .ok (.iload_n 2, 1) := by decide +kernel
theorem dX7_greatestDifference_11 : decode cX7_greatestDifference 11 = .ok (.aload_n 0, 1) := by decide +kernel
theorem dX7_greatestDifference_12 : decode cX7_greatestDifference 12 = .ok (.iload_n 3, 1) := by decide +kernel
theorem dX7_greatestDifference_13 : decode cX7_greatestDifference 13 = .ok (.iaload, 1) := by decide +kernel
theorem dX7_greatestDifference_14 : decode cX7_greatestDifference 14 = .ok (.aload_n 1, 1) := by decide +kernel
theorem dX7_greatestDifference_15 : decode cX7_greatestDifference 15 = .ok (.iload_n 3, 1) := by decide +kernel
theorem dX7_greatestDifference_16 : decode cX7_greatestDifference 16 = .ok (.iaload, 1) := by decide +kernel
theorem dX7_greatestDifference_17 : decode cX7_greatestDifference 17 = .ok (.isub, 1) := by decide +kernel
theorem dX7_greatestDifference_18 : decode cX7_greatestDifference 18 = .ok (.invokestatic 24, 3) := by decide +kernel
theorem dX7_greatestDifference_21 : decode cX7_greatestDifference 21 = .ok (.invokestatic 15, 3) := by decide +kernel
theorem dX7_greatestDifference_24 : decode cX7_greatestDifference 24 = .ok (.istore_n 2, 1) := by decide +kernel
theorem dX7_greatestDifference_25 : decode cX7_greatestDifference 25 = .ok (.iinc 3 1, 3) := by decide +kernel
theorem dX7_greatestDifference_28 : decode cX7_greatestDifference 28 = .ok (.goto (-24), 3) := by decide +kernel
theorem dX7_greatestDifference_31 : decode cX7_greatestDifference 31 = .ok (.iload_n 2, 1) := by decide +kernel
theorem dX7_greatestDifference_32 : decode cX7_greatestDifference 32 = .ok (.ireturn, 1) := by decide +kernel
theorem dX7_inPart_0 : decode cX7_inPart 0 = .ok (.iload_n 1, 1) := by decide +kernel
theorem dX7_inPart_1 : decode cX7_inPart 1 = .ok (.bipush 32, 2) := by decide +kernel
theorem dX7_inPart_3 : decode cX7_inPart 3 = .ok (.imul, 1) := by decide +kernel
theorem dX7_inPart_4 : decode cX7_inPart 4 = .ok (.istore_n 3, 1) := by decide +kernel
theorem dX7_inPart_5 : decode cX7_inPart 5 = .ok (.iconst 0, 1) := by decide +kernel
theorem dX7_inPart_6 : decode cX7_inPart 6 = .ok (.istore 4, 2) := by decide +kernel
theorem dX7_inPart_8 : decode cX7_inPart 8 = .ok (.iconst 0, 1) := by decide +kernel
theorem dX7_inPart_9 : decode cX7_inPart 9 = .ok (.istore 5, 2) := by decide +kernel
theorem dX7_inPart_11 : decode cX7_inPart 11 = .ok (.iload 5, 2) := by decide +kernel
theorem dX7_inPart_13 : decode cX7_inPart 13 = .ok (.bipush 32, 2) := by decide +kernel
theorem dX7_inPart_15 : decode cX7_inPart 15 = .ok (.if_icmp .ge 25, 3) := by decide +kernel
theorem dX7_inPart_18 : decode cX7_inPart 18 = .ok (.aload_n 0, 1) := by decide +kernel
theorem dX7_inPart_19 : decode cX7_inPart 19 = .ok (.iload_n 3, 1) := by decide +kernel
theorem dX7_inPart_20 : decode cX7_inPart 20 = .ok (.iload 5, 2) := by decide +kernel
theorem dX7_inPart_22 : decode cX7_inPart 22 = .ok (.iadd, 1) := by decide +kernel
theorem dX7_inPart_23 : decode cX7_inPart 23 = .ok (.iaload, 1) := by decide +kernel
theorem dX7_inPart_24 : decode cX7_inPart 24 = .ok (.bipush 16, 2) := by decide +kernel
theorem dX7_inPart_26 : decode cX7_inPart 26 = .ok (.idiv, 1) := by decide +kernel
theorem dX7_inPart_27 : decode cX7_inPart 27 = .ok (.iload_n 2, 1) := by decide +kernel
theorem dX7_inPart_28 : decode cX7_inPart 28 = .ok (.if_icmp .ne 6, 3) := by decide +kernel
theorem dX7_inPart_31 : decode cX7_inPart 31 = .ok (.iinc 4 1, 3) := by decide +kernel
theorem dX7_inPart_34 : decode cX7_inPart 34 = .ok (.iinc 5 1, 3) := by decide +kernel
theorem dX7_inPart_37 : decode cX7_inPart 37 = .ok (.goto (-26), 3) := by decide +kernel
theorem dX7_inPart_40 : decode cX7_inPart 40 = .ok (.iload 4, 2) := by decide +kernel
theorem dX7_inPart_42 : decode cX7_inPart 42 = .ok (.ireturn, 1) := by decide +kernel
theorem dX7_least_0 : decode cX7_least 0 = .ok (.iload_n 1, 1) := by decide +kernel
theorem dX7_least_1 : decode cX7_least 1 = .ok (.bipush 32, 2) := by decide +kernel
theorem dX7_least_3 : decode cX7_least 3 = .ok (.imul, 1) := by decide +kernel
theorem dX7_least_4 : decode cX7_least 4 = .ok (.istore_n 2, 1) := by decide +kernel
theorem dX7_least_5 : decode cX7_least 5 = .ok (.sipush 255, 3) := by decide +kernel
theorem dX7_least_8 : decode cX7_least 8 = .ok (.istore_n 3, 1) := by decide +kernel
theorem dX7_least_9 : decode cX7_least 9 = .ok (.iconst 0, 1) := by decide +kernel
theorem dX7_least_10 : decode cX7_least 10 = .ok (.istore 4, 2) := by decide +kernel
theorem dX7_least_12 : decode cX7_least 12 = .ok (.iload 4, 2) := by decide +kernel
theorem dX7_least_14 : decode cX7_least 14 = .ok (.bipush 32, 2) := by decide +kernel
theorem dX7_least_16 : decode cX7_least 16 = .ok (.if_icmp .ge 20, 3) := by decide +kernel
theorem dX7_least_19 : decode cX7_least 19 = .ok (.iload_n 3, 1) := by decide +kernel
theorem dX7_least_20 : decode cX7_least 20 = .ok (.aload_n 0, 1) := by decide +kernel
theorem dX7_least_21 : decode cX7_least 21 = .ok (.iload_n 2, 1) := by decide +kernel
theorem dX7_least_22 : decode cX7_least 22 = .ok (.iload 4, 2) := by decide +kernel
theorem dX7_least_24 : decode cX7_least 24 = .ok (.iadd, 1) := by decide +kernel
theorem dX7_least_25 : decode cX7_least 25 = .ok (.iaload, 1) := by decide +kernel
theorem dX7_least_26 : decode cX7_least 26 = .ok (.invokestatic 9, 3) := by decide +kernel
theorem dX7_least_29 : decode cX7_least 29 = .ok (.istore_n 3, 1) := by decide +kernel
theorem dX7_least_30 : decode cX7_least 30 = .ok (.iinc 4 1, 3) := by decide +kernel
theorem dX7_least_33 : decode cX7_least 33 = .ok (.goto (-21), 3) := by decide +kernel
theorem dX7_least_36 : decode cX7_least 36 = .ok (.iload_n 3, 1) := by decide +kernel
theorem dX7_least_37 : decode cX7_least 37 = .ok (.ireturn, 1) := by decide +kernel
theorem dX7_standsBefore_0 : decode cX7_standsBefore 0 = .ok (.iload_n 1, 1) := by decide +kernel
theorem dX7_standsBefore_1 : decode cX7_standsBefore 1 = .ok (.istore_n 3, 1) := by decide +kernel
theorem dX7_standsBefore_2 : decode cX7_standsBefore 2 = .ok (.iload_n 3, 1) := by decide +kernel
theorem dX7_standsBefore_3 : decode cX7_standsBefore 3 = .ok (.iload_n 2, 1) := by decide +kernel
theorem dX7_standsBefore_4 : decode cX7_standsBefore 4 = .ok (.if_icmp .ge 20, 3) := by decide +kernel
theorem dX7_standsBefore_7 : decode cX7_standsBefore 7 = .ok (.aload_n 0, 1) := by decide +kernel
theorem dX7_standsBefore_8 : decode cX7_standsBefore 8 = .ok (.iload_n 3, 1) := by decide +kernel
theorem dX7_standsBefore_9 : decode cX7_standsBefore 9 = .ok (.iaload, 1) := by decide +kernel
theorem dX7_standsBefore_10 : decode cX7_standsBefore 10 = .ok (.aload_n 0, 1) := by decide +kernel
theorem dX7_standsBefore_11 : decode cX7_standsBefore 11 = .ok (.iload_n 2, 1) := by decide +kernel
theorem dX7_standsBefore_12 : decode cX7_standsBefore 12 = .ok (.iaload, 1) := by decide +kernel
theorem dX7_standsBefore_13 : decode cX7_standsBefore 13 = .ok (.if_icmp .ne 5, 3) := by decide +kernel
theorem dX7_standsBefore_16 : decode cX7_standsBefore 16 = .ok (.iconst 1, 1) := by decide +kernel
theorem dX7_standsBefore_17 : decode cX7_standsBefore 17 = .ok (.ireturn, 1) := by decide +kernel
theorem dX7_standsBefore_18 : decode cX7_standsBefore 18 = .ok (.iinc 3 1, 3) := by decide +kernel
theorem dX7_standsBefore_21 : decode cX7_standsBefore 21 = .ok (.goto (-19), 3) := by decide +kernel
theorem dX7_standsBefore_24 : decode cX7_standsBefore 24 = .ok (.iconst 0, 1) := by decide +kernel
theorem dX7_standsBefore_25 : decode cX7_standsBefore 25 = .ok (.ireturn, 1) := by decide +kernel
theorem dX7_total_0 : decode cX7_total 0 = .ok (.iload_n 1, 1) := by decide +kernel
theorem dX7_total_1 : decode cX7_total 1 = .ok (.bipush 32, 2) := by decide +kernel
theorem dX7_total_3 : decode cX7_total 3 = .ok (.imul, 1) := by decide +kernel
theorem dX7_total_4 : decode cX7_total 4 = .ok (.istore_n 2, 1) := by decide +kernel
theorem dX7_total_5 : decode cX7_total 5 = .ok (.iconst 0, 1) := by decide +kernel
theorem dX7_total_6 : decode cX7_total 6 = .ok (.istore_n 3, 1) := by decide +kernel
theorem dX7_total_7 : decode cX7_total 7 = .ok (.iconst 0, 1) := by decide +kernel
theorem dX7_total_8 : decode cX7_total 8 = .ok (.istore 4, 2) := by decide +kernel
theorem dX7_total_10 : decode cX7_total 10 = .ok (.iload 4, 2) := by decide +kernel
theorem dX7_total_12 : decode cX7_total 12 = .ok (.bipush 32, 2) := by decide +kernel
theorem dX7_total_14 : decode cX7_total 14 = .ok (.if_icmp .ge 18, 3) := by decide +kernel
theorem dX7_total_17 : decode cX7_total 17 = .ok (.iload_n 3, 1) := by decide +kernel
theorem dX7_total_18 : decode cX7_total 18 = .ok (.aload_n 0, 1) := by decide +kernel
theorem dX7_total_19 : decode cX7_total 19 = .ok (.iload_n 2, 1) := by decide +kernel
theorem dX7_total_20 : decode cX7_total 20 = .ok (.iload 4, 2) := by decide +kernel
theorem dX7_total_22 : decode cX7_total 22 = .ok (.iadd, 1) := by decide +kernel
theorem dX7_total_23 : decode cX7_total 23 = .ok (.iaload, 1) := by decide +kernel
theorem dX7_total_24 : decode cX7_total 24 = .ok (.iadd, 1) := by decide +kernel
theorem dX7_total_25 : decode cX7_total 25 = .ok (.istore_n 3, 1) := by decide +kernel
theorem dX7_total_26 : decode cX7_total 26 = .ok (.iinc 4 1, 3) := by decide +kernel
theorem dX7_total_29 : decode cX7_total 29 = .ok (.goto (-19), 3) := by decide +kernel
theorem dX7_total_32 : decode cX7_total 32 = .ok (.iload_n 3, 1) := by decide +kernel
theorem dX7_total_33 : decode cX7_total 33 = .ok (.ireturn, 1) := by decide +kernel
theorem dX8_at_0 : decode cX8_at 0 = .ok (.iload_n 1, 1) := by decide +kernel
theorem dX8_at_1 : decode cX8_at 1 = .ok (.iconst 0, 1) := by decide +kernel
theorem dX8_at_2 : decode cX8_at 2 = .ok (.aload_n 0, 1) := by decide +kernel
theorem dX8_at_3 : decode cX8_at 3 = .ok (.getfield 15, 3) := by decide +kernel
theorem dX8_at_6 : decode cX8_at 6 = .ok (.iconst 1, 1) := by decide +kernel
theorem dX8_at_7 : decode cX8_at 7 = .ok (.isub, 1) := by decide +kernel
theorem dX8_at_8 : decode cX8_at 8 = .ok (.invokestatic 19, 3) := by decide +kernel
theorem dX8_at_11 : decode cX8_at 11 = .ok (.ifCond .eq 12, 3) := by decide +kernel
theorem dX8_at_14 : decode cX8_at 14 = .ok (.aload_n 0, 1) := by decide +kernel
theorem dX8_at_15 : decode cX8_at 15 = .ok (.getfield 9, 3) := by decide +kernel
theorem dX8_at_18 : decode cX8_at 18 = .ok (.iload_n 1, 1) := by decide +kernel
theorem dX8_at_19 : decode cX8_at 19 = .ok (.baload, 1) := by decide +kernel
theorem dX8_at_20 : decode cX8_at 20 = .ok (.goto 4, 3) := by decide +kernel
theorem dX8_at_23 : decode cX8_at 23 = .ok (.iconst (-1), 1) := by decide +kernel
theorem dX8_at_24 : decode cX8_at 24 = .ok (.ireturn, 1) := by decide +kernel
theorem dX8_empty_0 : decode cX8_empty 0 = .ok (.aload_n 0, 1) := by decide +kernel
theorem dX8_empty_1 : decode cX8_empty 1 = .ok (.iconst 0, 1) := by decide +kernel
theorem dX8_empty_2 : decode cX8_empty 2 = .ok (.putfield 15, 3) := by decide +kernel
theorem dX8_empty_5 : decode cX8_empty 5 = .ok (.return_, 1) := by decide +kernel
theorem dX8_init_0 : decode cX8_init 0 = .ok (.aload_n 0, 1) := by decide +kernel
theorem dX8_init_1 : decode cX8_init 1 = .ok (.invokespecial 3, 3) := by decide +kernel
theorem dX8_init_4 : decode cX8_init 4 = .ok (.aload_n 0, 1) := by decide +kernel
theorem dX8_init_5 : decode cX8_init 5 = .ok (.bipush 80, 2) := by decide +kernel
theorem dX8_init_7 : decode cX8_init 7 = .ok (.newarray .byte, 2) := by decide +kernel
theorem dX8_init_9 : decode cX8_init 9 = .ok (.putfield 9, 3) := by decide +kernel
theorem dX8_init_12 : decode cX8_init 12 = .ok (.return_, 1) := by decide +kernel
theorem dX8_openAhead_0 : decode cX8_openAhead 0 = .ok (.iconst 0, 1) := by decide +kernel
theorem dX8_openAhead_1 : decode cX8_openAhead 1 = .ok (.istore_n 2, 1) := by decide +kernel
theorem dX8_openAhead_2 : decode cX8_openAhead 2 = .ok (.iconst 0, 1) := by decide +kernel
theorem dX8_openAhead_3 : decode cX8_openAhead 3 = .ok (.istore_n 3, 1) := by decide +kernel
theorem dX8_openAhead_4 : decode cX8_openAhead 4 = .ok (.iload_n 3, 1) := by decide +kernel
theorem dX8_openAhead_5 : decode cX8_openAhead 5 = .ok (.iload_n 1, 1) := by decide +kernel
theorem dX8_openAhead_6 : decode cX8_openAhead 6 = .ok (.if_icmp .ge 38, 3) := by decide +kernel
theorem dX8_openAhead_9 : decode cX8_openAhead 9 = .ok (.aload_n 0, 1) := by decide +kernel
theorem dX8_openAhead_10 : decode cX8_openAhead 10 = .ok (.iload_n 3, 1) := by decide +kernel
theorem dX8_openAhead_11 : decode cX8_openAhead 11 = .ok (.invokevirtual 23, 3) := by decide +kernel
theorem dX8_openAhead_14 : decode cX8_openAhead 14 = .ok (.bipush 40, 2) := by decide +kernel
theorem dX8_openAhead_16 : decode cX8_openAhead 16 = .ok (.if_icmp .ne 9, 3) := by decide +kernel
theorem dX8_openAhead_19 : decode cX8_openAhead 19 = .ok (.iinc 2 1, 3) := by decide +kernel
theorem dX8_openAhead_22 : decode cX8_openAhead 22 = .ok (.goto 16, 3) := by decide +kernel
theorem dX8_openAhead_25 : decode cX8_openAhead 25 = .ok (.aload_n 0, 1) := by decide +kernel
theorem dX8_openAhead_26 : decode cX8_openAhead 26 = .ok (.iload_n 3, 1) := by decide +kernel
theorem dX8_openAhead_27 : decode cX8_openAhead 27 = .ok (.invokevirtual 23, 3) := by decide +kernel
theorem dX8_openAhead_30 : decode cX8_openAhead 30 = .ok (.bipush 41, 2) := by decide +kernel
theorem dX8_openAhead_32 : decode cX8_openAhead 32 = .ok (.if_icmp .ne 6, 3) := by decide +kernel
theorem dX8_openAhead_35 : decode cX8_openAhead 35 = .ok (.iinc 2 (-1), 3) := by decide +kernel
theorem dX8_openAhead_38 : decode cX8_openAhead 38 = .ok (.iinc 3 1, 3) := by decide +kernel
theorem dX8_openAhead_41 : decode cX8_openAhead 41 = .ok (.goto (-37), 3) := by decide +kernel
theorem dX8_openAhead_44 : decode cX8_openAhead 44 = .ok (.iload_n 2, 1) := by decide +kernel
theorem dX8_openAhead_45 : decode cX8_openAhead 45 = .ok (.ireturn, 1) := by decide +kernel
theorem dX8_put_0 : decode cX8_put 0 = .ok (.aload_n 0, 1) := by decide +kernel
theorem dX8_put_1 : decode cX8_put 1 = .ok (.getfield 15, 3) := by decide +kernel
theorem dX8_put_4 : decode cX8_put 4 = .ok (.bipush 80, 2) := by decide +kernel
theorem dX8_put_6 : decode cX8_put 6 = .ok (.if_icmp .lt 7, 3) := by decide +kernel
theorem dX8_put_9 : decode cX8_put 9 = .ok (.sipush (-1004), 3) := by decide +kernel
theorem dX8_put_12 : decode cX8_put 12 = .ok (.ireturn, 1) := by decide +kernel
theorem dX8_put_13 : decode cX8_put 13 = .ok (.aload_n 0, 1) := by decide +kernel
theorem dX8_put_14 : decode cX8_put 14 = .ok (.getfield 9, 3) := by decide +kernel
theorem dX8_put_17 : decode cX8_put 17 = .ok (.aload_n 0, 1) := by decide +kernel
theorem dX8_put_18 : decode cX8_put 18 = .ok (.getfield 15, 3) := by decide +kernel
theorem dX8_put_21 : decode cX8_put 21 = .ok (.iload_n 1, 1) := by decide +kernel
theorem dX8_put_22 : decode cX8_put 22 = .ok (.i2b, 1) := by decide +kernel
theorem dX8_put_23 : decode cX8_put 23 = .ok (.bastore, 1) := by decide +kernel
theorem dX8_put_24 : decode cX8_put 24 = .ok (.aload_n 0, 1) := by decide +kernel
theorem dX8_put_25 : decode cX8_put 25 = .ok (.dup, 1) := by decide +kernel
theorem dX8_put_26 : decode cX8_put 26 = .ok (.getfield 15, 3) := by decide +kernel
theorem dX8_put_29 : decode cX8_put 29 = .ok (.iconst 1, 1) := by decide +kernel
theorem dX8_put_30 : decode cX8_put 30 = .ok (.iadd, 1) := by decide +kernel
theorem dX8_put_31 : decode cX8_put 31 = .ok (.putfield 15, 3) := by decide +kernel
theorem dX8_put_34 : decode cX8_put 34 = .ok (.aload_n 0, 1) := by decide +kernel
theorem dX8_put_35 : decode cX8_put 35 = .ok (.getfield 15, 3) := by decide +kernel
theorem dX8_put_38 : decode cX8_put 38 = .ok (.ireturn, 1) := by decide +kernel
theorem dX9_addNode_0 : decode cX9_addNode 0 = .ok (.iload_n 1, 1) := by decide +kernel
theorem dX9_addNode_1 : decode cX9_addNode 1 = .ok (.iconst 0, 1) := by decide +kernel
theorem dX9_addNode_2 : decode cX9_addNode 2 = .ok (.bipush 6, 2) := by decide +kernel
theorem dX9_addNode_4 : decode cX9_addNode 4 = .ok (.invokestatic 52, 3) := by decide +kernel
theorem dX9_addNode_7 : decode cX9_addNode 7 = .ok (.ifCond .ne 7, 3) := by decide +kernel
theorem dX9_addNode_10 : decode cX9_addNode 10 = .ok (.sipush (-1002), 3) := by decide +kernel
theorem dX9_addNode_13 : decode cX9_addNode 13 = .ok (.ireturn, 1) := by decide +kernel
theorem dX9_addNode_14 : decode cX9_addNode 14 = .ok (.aload_n 0, 1) := by decide +kernel
theorem dX9_addNode_15 : decode cX9_addNode 15 = .ok (.getfield 12, 3) := by decide +kernel
theorem dX9_addNode_18 : decode cX9_addNode 18 = .ok (.iload_n 1, 1) := by decide +kernel
theorem dX9_addNode_19 : decode cX9_addNode 19 = .ok (.invokevirtual 56, 3) := by decide +kernel
theorem dX9_addNode_22 : decode cX9_addNode 22 = .ok (.ireturn, 1) := by decide +kernel
theorem dX9_append_0 : decode cX9_append 0 = .ok (.iload_n 1, 1) := by decide +kernel
theorem dX9_append_1 : decode cX9_append 1 = .ok (.iconst 0, 1) := by decide +kernel
theorem dX9_append_2 : decode cX9_append 2 = .ok (.bipush 127, 2) := by decide +kernel
theorem dX9_append_4 : decode cX9_append 4 = .ok (.invokestatic 52, 3) := by decide +kernel
theorem dX9_append_7 : decode cX9_append 7 = .ok (.ifCond .ne 7, 3) := by decide +kernel
theorem dX9_append_10 : decode cX9_append 10 = .ok (.sipush (-1002), 3) := by decide +kernel
theorem dX9_append_13 : decode cX9_append 13 = .ok (.ireturn, 1) := by decide +kernel
theorem dX9_append_14 : decode cX9_append 14 = .ok (.aload_n 0, 1) := by decide +kernel
theorem dX9_append_15 : decode cX9_append 15 = .ok (.getfield 26, 3) := by decide +kernel
theorem dX9_append_18 : decode cX9_append 18 = .ok (.getfield 187, 3) := by decide +kernel
theorem dX9_append_21 : decode cX9_append 21 = .ok (.iload_n 1, 1) := by decide +kernel
theorem dX9_append_22 : decode cX9_append 22 = .ok (.invokevirtual 191, 3) := by decide +kernel
theorem dX9_append_25 : decode cX9_append 25 = .ok (.ireturn, 1) := by decide +kernel
theorem dX9_ask_0 : decode cX9_ask 0 = .ok (.aload_n 0, 1) := by decide +kernel
theorem dX9_ask_1 : decode cX9_ask 1 = .ok (.getfield 12, 3) := by decide +kernel
theorem dX9_ask_4 : decode cX9_ask 4 = .ok (.iload_n 1, 1) := by decide +kernel
theorem dX9_ask_5 : decode cX9_ask 5 = .ok (.invokevirtual 64, 3) := by decide +kernel
theorem dX9_ask_8 : decode cX9_ask 8 = .ok (.ifCond .eq 9, 3) := by decide +kernel
theorem dX9_ask_11 : decode cX9_ask 11 = .ok (.iload_n 3, 1) := by decide +kernel
theorem dX9_ask_12 : decode cX9_ask 12 = .ok (.bipush 12, 2) := by decide +kernel
theorem dX9_ask_14 : decode cX9_ask 14 = .ok (.if_icmp .lt 8, 3) := by decide +kernel
theorem dX9_ask_17 : decode cX9_ask 17 = .ok (.aload_n 0, 1) := by decide +kernel
theorem dX9_ask_18 : decode cX9_ask 18 = .ok (.getfield 38, 3) := by decide +kernel
theorem dX9_ask_21 : decode cX9_ask 21 = .ok (.areturn, 1) := by decide +kernel
theorem dX9_ask_22 : decode cX9_ask 22 = .ok (.aload_n 0, 1) := by decide +kernel
theorem dX9_ask_23 : decode cX9_ask 23 = .ok (.getfield 19, 3) := by decide +kernel
theorem dX9_ask_26 : decode cX9_ask 26 = .ok (.iload_n 1, 1) := by decide +kernel
theorem dX9_ask_27 : decode cX9_ask 27 = .ok (.iload_n 2, 1) := by decide +kernel
theorem dX9_ask_28 : decode cX9_ask 28 = .ok (.invokevirtual 170, 3) := by decide +kernel
theorem dX9_ask_31 : decode cX9_ask 31 = .ok (.astore 4, 2) := by decide +kernel
theorem dX9_ask_33 : decode cX9_ask 33 = .ok (.aload 4, 2) := by decide +kernel
theorem dX9_ask_35 : decode cX9_ask 35 = .ok (.ifnull 18, 3) := by decide +kernel
theorem dX9_ask_38 : decode cX9_ask 38 = .ok (.aload_n 0, 1) := by decide +kernel
theorem dX9_ask_39 : decode cX9_ask 39 = .ok (.getfield 19, 3) := by decide +kernel
theorem dX9_ask_42 : decode cX9_ask 42 = .ok (.aload 4, 2) := by decide +kernel
theorem dX9_ask_44 : decode cX9_ask 44 = .ok (.invokevirtual 260, 3) := by decide +kernel
theorem dX9_ask_47 : decode cX9_ask 47 = .ok (.aload 4, 2) := by decide +kernel
theorem dX9_ask_49 : decode cX9_ask 49 = .ok (.getfield 264, 3) := by decide +kernel
theorem dX9_ask_52 : decode cX9_ask 52 = .ok (.areturn, 1) := by decide +kernel
theorem dX9_ask_53 : decode cX9_ask 53 = .ok (.aload_n 0, 1) := by decide +kernel
theorem dX9_ask_54 : decode cX9_ask 54 = .ok (.getfield 12, 3) := by decide +kernel
theorem dX9_ask_57 : decode cX9_ask 57 = .ok (.getfield 82, 3) := by decide +kernel
theorem dX9_ask_60 : decode cX9_ask 60 = .ok (.iload_n 1, 1) := by decide +kernel
theorem dX9_ask_61 : decode cX9_ask 61 = .ok (.aaload, 1) := by decide +kernel
theorem dX9_ask_62 : decode cX9_ask 62 = .ok (.astore 5, 2) := by decide +kernel
theorem dX9_ask_64 : decode cX9_ask 64 = .ok (.iload_n 2, 1) := by decide +kernel
theorem dX9_ask_65 : decode cX9_ask 65 = .ok (.aload 5, 2) := by decide +kernel
theorem dX9_ask_67 : decode cX9_ask 67 = .ok (.getfield 86, 3) := by decide +kernel
theorem dX9_ask_70 : decode cX9_ask 70 = .ok (.aload 5, 2) := by decide +kernel
theorem dX9_ask_72 : decode cX9_ask 72 = .ok (.getfield 91, 3) := by decide +kernel
theorem dX9_ask_75 : decode cX9_ask 75 = .ok (.invokestatic 52, 3) := by decide +kernel
theorem dX9_ask_78 : decode cX9_ask 78 = .ok (.istore 6, 2) := by decide +kernel
theorem dX9_ask_80 : decode cX9_ask 80 = .ok (.aload_n 0, 1) := by decide +kernel
theorem dX9_ask_81 : decode cX9_ask 81 = .ok (.aload 5, 2) := by decide +kernel
theorem dX9_ask_83 : decode cX9_ask 83 = .ok (.getfield 130, 3) := by decide +kernel
theorem dX9_ask_86 : decode cX9_ask 86 = .ok (.iconst 0, 1) := by decide +kernel
theorem dX9_ask_87 : decode cX9_ask 87 = .ok (.iaload, 1) := by decide +kernel
theorem dX9_ask_88 : decode cX9_ask 88 = .ok (.iload_n 2, 1) := by decide +kernel
theorem dX9_ask_89 : decode cX9_ask 89 = .ok (.iload_n 3, 1) := by decide +kernel
theorem dX9_ask_90 : decode cX9_ask 90 = .ok (.iconst 1, 1) := by decide +kernel
theorem dX9_ask_91 : decode cX9_ask 91 = .ok (.iadd, 1) := by decide +kernel
theorem dX9_ask_92 : decode cX9_ask 92 = .ok (.invokevirtual 136, 3) := by decide +kernel
theorem dX9_ask_95 : decode cX9_ask 95 = .ok (.astore 7, 2) := by decide +kernel
theorem dX9_ask_97 : decode cX9_ask 97 = .ok (.iload 6, 2) := by decide +kernel
theorem dX9_ask_99 : decode cX9_ask 99 = .ok (.ifCond .eq 21, 3) := by decide +kernel
theorem dX9_ask_102 : decode cX9_ask 102 = .ok (.aload_n 0, 1) := by decide +kernel
theorem dX9_ask_103 : decode cX9_ask 103 = .ok (.aload 5, 2) := by decide +kernel
theorem dX9_ask_105 : decode cX9_ask 105 = .ok (.getfield 130, 3) := by decide +kernel
theorem dX9_ask_108 : decode cX9_ask 108 = .ok (.iconst 1, 1) := by decide +kernel
theorem dX9_ask_109 : decode cX9_ask 109 = .ok (.iaload, 1) := by decide +kernel
theorem dX9_ask_110 : decode cX9_ask 110 = .ok (.iload_n 2, 1) := by decide +kernel
theorem dX9_ask_111 : decode cX9_ask 111 = .ok (.iload_n 3, 1) := by decide +kernel
theorem dX9_ask_112 : decode cX9_ask 112 = .ok (.iconst 1, 1) := by decide +kernel
theorem dX9_ask_113 : decode cX9_ask 113 = .ok (.iadd, 1) := by decide +kernel
theorem dX9_ask_114 : decode cX9_ask 114 = .ok (.invokevirtual 136, 3) := by decide +kernel
theorem dX9_ask_117 : decode cX9_ask 117 = .ok (.goto 7, 3) := by decide +kernel
theorem dX9_ask_120 : decode cX9_ask 120 = .ok (.aload_n 0, 1) := by decide +kernel
theorem dX9_ask_121 : decode cX9_ask 121 = .ok (.getfield 38, 3) := by decide +kernel
theorem dX9_ask_124 : decode cX9_ask 124 = .ok (.astore 8, 2) := by decide +kernel
theorem dX9_ask_126 : decode cX9_ask 126 = .ok (.iload 6, 2) := by decide +kernel
theorem dX9_ask_128 : decode cX9_ask 128 = .ok (.ifCond .eq 21, 3) := by decide +kernel
theorem dX9_ask_131 : decode cX9_ask 131 = .ok (.aload_n 0, 1) := by decide +kernel
theorem dX9_ask_132 : decode cX9_ask 132 = .ok (.aload 5, 2) := by decide +kernel
theorem dX9_ask_134 : decode cX9_ask 134 = .ok (.getfield 130, 3) := by decide +kernel
theorem dX9_ask_137 : decode cX9_ask 137 = .ok (.iconst 2, 1) := by decide +kernel
theorem dX9_ask_138 : decode cX9_ask 138 = .ok (.iaload, 1) := by decide +kernel
theorem dX9_ask_139 : decode cX9_ask 139 = .ok (.iload_n 2, 1) := by decide +kernel
theorem dX9_ask_140 : decode cX9_ask 140 = .ok (.iload_n 3, 1) := by decide +kernel
theorem dX9_ask_141 : decode cX9_ask 141 = .ok (.iconst 1, 1) := by decide +kernel
theorem dX9_ask_142 : decode cX9_ask 142 = .ok (.iadd, 1) := by decide +kernel
theorem dX9_ask_143 : decode cX9_ask 143 = .ok (.invokevirtual 136, 3) := by decide +kernel
theorem dX9_ask_146 : decode cX9_ask 146 = .ok (.goto 7, 3) := by decide +kernel
theorem dX9_ask_149 : decode cX9_ask 149 = .ok (.aload_n 0, 1) := by decide +kernel
theorem dX9_ask_150 : decode cX9_ask 150 = .ok (.getfield 38, 3) := by decide +kernel
theorem dX9_ask_153 : decode cX9_ask 153 = .ok (.astore 9, 2) := by decide +kernel
theorem dX9_ask_155 : decode cX9_ask 155 = .ok (.aload_n 0, 1) := by decide +kernel
theorem dX9_ask_156 : decode cX9_ask 156 = .ok (.getfield 19, 3) := by decide +kernel
theorem dX9_ask_159 : decode cX9_ask 159 = .ok (.iload_n 1, 1) := by decide +kernel
theorem dX9_ask_160 : decode cX9_ask 160 = .ok (.iload_n 2, 1) := by decide +kernel
theorem dX9_ask_161 : decode cX9_ask 161 = .ok (.invokevirtual 269, 3) := by decide +kernel
theorem dX9_ask_164 : decode cX9_ask 164 = .ok (.astore 10, 2) := by decide +kernel
theorem dX9_ask_166 : decode cX9_ask 166 = .ok (.iload 6, 2) := by decide +kernel
theorem dX9_ask_168 : decode cX9_ask 168 = .ok (.ifCond .eq 23, 3) := by decide +kernel
theorem dX9_ask_171 : decode cX9_ask 171 = .ok (.aload 5, 2) := by decide +kernel
theorem dX9_ask_173 : decode cX9_ask 173 = .ok (.iload_n 2, 1) := by decide +kernel
theorem dX9_ask_174 : decode cX9_ask 174 = .ok (.aload 7, 2) := by decide +kernel
theorem dX9_ask_176 : decode cX9_ask 176 = .ok (.aload 8, 2) := by decide +kernel
theorem dX9_ask_178 : decode cX9_ask 178 = .ok (.aload 9, 2) := by decide +kernel
theorem dX9_ask_180 : decode cX9_ask 180 = .ok (.aload 10, 2) := by decide +kernel
theorem dX9_ask_182 : decode cX9_ask 182 = .ok (.getfield 264, 3) := by decide +kernel
theorem dX9_ask_185 : decode cX9_ask 185 = .ok (.invokestatic 272, 3) := by decide +kernel
theorem dX9_ask_188 : decode cX9_ask 188 = .ok (.goto 17, 3) := by decide +kernel
theorem dX9_ask_191 : decode cX9_ask 191 = .ok (.aload 7, 2) := by decide +kernel
theorem dX9_ask_193 : decode cX9_ask 193 = .ok (.iconst 0, 1) := by decide +kernel
theorem dX9_ask_194 : decode cX9_ask 194 = .ok (.aload 10, 2) := by decide +kernel
theorem dX9_ask_196 : decode cX9_ask 196 = .ok (.getfield 264, 3) := by decide +kernel
theorem dX9_ask_199 : decode cX9_ask 199 = .ok (.iconst 0, 1) := by decide +kernel
theorem dX9_ask_200 : decode cX9_ask 200 = .ok (.bipush 96, 2) := by decide +kernel
theorem dX9_ask_202 : decode cX9_ask 202 = .ok (.invokestatic 278, 3) := by decide +kernel
theorem dX9_ask_205 : decode cX9_ask 205 = .ok (.aload 10, 2) := by decide +kernel
theorem dX9_ask_207 : decode cX9_ask 207 = .ok (.getfield 264, 3) := by decide +kernel
theorem dX9_ask_210 : decode cX9_ask 210 = .ok (.areturn, 1) := by decide +kernel
theorem dX9_build_0 : decode cX9_build 0 = .ok (.aload_n 0, 1) := by decide +kernel
theorem dX9_build_1 : decode cX9_build 1 = .ok (.getfield 26, 3) := by decide +kernel
theorem dX9_build_4 : decode cX9_build 4 = .ok (.aload_n 0, 1) := by decide +kernel
theorem dX9_build_5 : decode cX9_build 5 = .ok (.getfield 12, 3) := by decide +kernel
theorem dX9_build_8 : decode cX9_build 8 = .ok (.getfield 42, 3) := by decide +kernel
theorem dX9_build_11 : decode cX9_build 11 = .ok (.invokevirtual 200, 3) := by decide +kernel
theorem dX9_build_14 : decode cX9_build 14 = .ok (.istore_n 1, 1) := by decide +kernel
theorem dX9_build_15 : decode cX9_build 15 = .ok (.aload_n 0, 1) := by decide +kernel
theorem dX9_build_16 : decode cX9_build 16 = .ok (.getfield 26, 3) := by decide +kernel
theorem dX9_build_19 : decode cX9_build 19 = .ok (.getfield 203, 3) := by decide +kernel
theorem dX9_build_22 : decode cX9_build 22 = .ok (.ifCond .eq 7, 3) := by decide +kernel
theorem dX9_build_25 : decode cX9_build 25 = .ok (.sipush (-1003), 3) := by decide +kernel
theorem dX9_build_28 : decode cX9_build 28 = .ok (.ireturn, 1) := by decide +kernel
theorem dX9_build_29 : decode cX9_build 29 = .ok (.aload_n 0, 1) := by decide +kernel
theorem dX9_build_30 : decode cX9_build 30 = .ok (.getfield 12, 3) := by decide +kernel
theorem dX9_build_33 : decode cX9_build 33 = .ok (.getfield 42, 3) := by decide +kernel
theorem dX9_build_36 : decode cX9_build 36 = .ok (.aload_n 0, 1) := by decide +kernel
theorem dX9_build_37 : decode cX9_build 37 = .ok (.getfield 26, 3) := by decide +kernel
theorem dX9_build_40 : decode cX9_build 40 = .ok (.getfield 213, 3) := by decide +kernel
theorem dX9_build_43 : decode cX9_build 43 = .ok (.iadd, 1) := by decide +kernel
theorem dX9_build_44 : decode cX9_build 44 = .ok (.bipush 12, 2) := by decide +kernel
theorem dX9_build_46 : decode cX9_build 46 = .ok (.if_icmp .le 7, 3) := by decide +kernel
theorem dX9_build_49 : decode cX9_build 49 = .ok (.sipush (-1004), 3) := by decide +kernel
theorem dX9_build_52 : decode cX9_build 52 = .ok (.ireturn, 1) := by decide +kernel
theorem dX9_build_53 : decode cX9_build 53 = .ok (.aload_n 0, 1) := by decide +kernel
theorem dX9_build_54 : decode cX9_build 54 = .ok (.getfield 12, 3) := by decide +kernel
theorem dX9_build_57 : decode cX9_build 57 = .ok (.aload_n 0, 1) := by decide +kernel
theorem dX9_build_58 : decode cX9_build 58 = .ok (.getfield 26, 3) := by decide +kernel
theorem dX9_build_61 : decode cX9_build 61 = .ok (.getfield 216, 3) := by decide +kernel
theorem dX9_build_64 : decode cX9_build 64 = .ok (.aload_n 0, 1) := by decide +kernel
theorem dX9_build_65 : decode cX9_build 65 = .ok (.getfield 26, 3) := by decide +kernel
theorem dX9_build_68 : decode cX9_build 68 = .ok (.getfield 213, 3) := by decide +kernel
theorem dX9_build_71 : decode cX9_build 71 = .ok (.invokevirtual 219, 3) := by decide +kernel
theorem dX9_build_74 : decode cX9_build 74 = .ok (.iload_n 1, 1) := by decide +kernel
theorem dX9_build_75 : decode cX9_build 75 = .ok (.ireturn, 1) := by decide +kernel
theorem dX9_checksum_0 : decode cX9_checksum 0 = .ok (.ldc2_w 227, 3) := by decide +kernel
theorem dX9_checksum_3 : decode cX9_checksum 3 = .ok (.aload_n 0, 1) := by decide +kernel
theorem dX9_checksum_4 : decode cX9_checksum 4 = .ok (.invokevirtual 229, 3) := by decide +kernel
theorem dX9_checksum_7 : decode cX9_checksum 7 = .ok (.invokestatic 232, 3) := by decide +kernel
theorem dX9_checksum_10 : decode cX9_checksum 10 = .ok (.lstore_n 1, 1) := by decide +kernel
theorem dX9_checksum_11 : decode cX9_checksum 11 = .ok (.iconst 0, 1) := by decide +kernel
theorem dX9_checksum_12 : decode cX9_checksum 12 = .ok (.istore_n 3, 1) := by decide +kernel
theorem dX9_checksum_13 : decode cX9_checksum 13 = .ok (.iload_n 3, 1) := by decide +kernel
theorem dX9_checksum_14 : decode cX9_checksum 14 = .ok (.aload_n 0, 1) := by decide +kernel
theorem dX9_checksum_15 : decode cX9_checksum 15 = .ok (.getfield 12, 3) := by decide +kernel
theorem dX9_checksum_18 : decode cX9_checksum 18 = .ok (.getfield 42, 3) := by decide +kernel
theorem dX9_checksum_21 : decode cX9_checksum 21 = .ok (.if_icmp .ge 16, 3) := by decide +kernel
theorem dX9_checksum_24 : decode cX9_checksum 24 = .ok (.aload_n 0, 1) := by decide +kernel
theorem dX9_checksum_25 : decode cX9_checksum 25 = .ok (.lload_n 1, 1) := by decide +kernel
theorem dX9_checksum_26 : decode cX9_checksum 26 = .ok (.iload_n 3, 1) := by decide +kernel
theorem dX9_checksum_27 : decode cX9_checksum 27 = .ok (.invokevirtual 236, 3) := by decide +kernel
theorem dX9_checksum_30 : decode cX9_checksum 30 = .ok (.lstore_n 1, 1) := by decide +kernel
theorem dX9_checksum_31 : decode cX9_checksum 31 = .ok (.iinc 3 1, 3) := by decide +kernel
theorem dX9_checksum_34 : decode cX9_checksum 34 = .ok (.goto (-21), 3) := by decide +kernel
theorem dX9_checksum_37 : decode cX9_checksum 37 = .ok (.iconst 0, 1) := by decide +kernel
theorem dX9_checksum_38 : decode cX9_checksum 38 = .ok (.istore_n 3, 1) := by decide +kernel
theorem dX9_checksum_39 : decode cX9_checksum 39 = .ok (.iload_n 3, 1) := by decide +kernel
theorem dX9_checksum_40 : decode cX9_checksum 40 = .ok (.iconst 5, 1) := by decide +kernel
theorem dX9_checksum_41 : decode cX9_checksum 41 = .ok (.if_icmp .ge 19, 3) := by decide +kernel
theorem dX9_checksum_44 : decode cX9_checksum 44 = .ok (.lload_n 1, 1) := by decide +kernel
theorem dX9_checksum_45 : decode cX9_checksum 45 = .ok (.aload_n 0, 1) := by decide +kernel
theorem dX9_checksum_46 : decode cX9_checksum 46 = .ok (.iload_n 3, 1) := by decide +kernel
theorem dX9_checksum_47 : decode cX9_checksum 47 = .ok (.invokevirtual 239, 3) := by decide +kernel
theorem dX9_checksum_50 : decode cX9_checksum 50 = .ok (.invokestatic 232, 3) := by decide +kernel
theorem dX9_checksum_53 : decode cX9_checksum 53 = .ok (.lstore_n 1, 1) := by decide +kernel
theorem dX9_checksum_54 : decode cX9_checksum 54 = .ok (.iinc 3 1, 3) := by decide +kernel
theorem dX9_checksum_57 : decode cX9_checksum 57 = .ok (.goto (-18), 3) := by decide +kernel
theorem dX9_checksum_60 : decode cX9_checksum 60 = .ok (.iconst 0, 1) := by decide +kernel
theorem dX9_checksum_61 : decode cX9_checksum 61 = .ok (.istore_n 3, 1) := by decide +kernel
theorem dX9_checksum_62 : decode cX9_checksum 62 = .ok (.iload_n 3, 1) := by decide +kernel
theorem dX9_checksum_63 : decode cX9_checksum 63 = .ok (.aload_n 0, 1) := by decide +kernel
theorem dX9_checksum_64 : decode cX9_checksum 64 = .ok (.getfield 12, 3) := by decide +kernel
theorem dX9_checksum_67 : decode cX9_checksum 67 = .ok (.getfield 42, 3) := by decide +kernel
theorem dX9_checksum_70 : decode cX9_checksum 70 = .ok (.if_icmp .ge 37, 3) := by decide +kernel
theorem dX9_checksum_73 : decode cX9_checksum 73 = .ok (.iconst 0, 1) := by decide +kernel
theorem dX9_checksum_74 : decode cX9_checksum 74 = .ok (.istore 4, 2) := by decide +kernel
theorem dX9_checksum_76 : decode cX9_checksum 76 = .ok (.iload 4, 2) := by decide +kernel
theorem dX9_checksum_78 : decode cX9_checksum 78 = .ok (.bipush 10, 2) := by decide +kernel
theorem dX9_checksum_80 : decode cX9_checksum 80 = .ok (.if_icmp .ge 21, 3) := by decide +kernel
theorem dX9_checksum_83 : decode cX9_checksum 83 = .ok (.lload_n 1, 1) := by decide +kernel
theorem dX9_checksum_84 : decode cX9_checksum 84 = .ok (.aload_n 0, 1) := by decide +kernel
theorem dX9_checksum_85 : decode cX9_checksum 85 = .ok (.iload_n 3, 1) := by decide +kernel
theorem dX9_checksum_86 : decode cX9_checksum 86 = .ok (.iload 4, 2) := by decide +kernel
theorem dX9_checksum_88 : decode cX9_checksum 88 = .ok (.invokevirtual 242, 3) := by decide +kernel
theorem dX9_checksum_91 : decode cX9_checksum 91 = .ok (.invokestatic 232, 3) := by decide +kernel
theorem dX9_checksum_94 : decode cX9_checksum 94 = .ok (.lstore_n 1, 1) := by decide +kernel
theorem dX9_checksum_95 : decode cX9_checksum 95 = .ok (.iinc 4 1, 3) := by decide +kernel
theorem dX9_checksum_98 : decode cX9_checksum 98 = .ok (.goto (-22), 3) := by decide +kernel
theorem dX9_checksum_101 : decode cX9_checksum 101 = .ok (.iinc 3 1, 3) := by decide +kernel
theorem dX9_checksum_104 : decode cX9_checksum 104 = .ok (.goto (-42), 3) := by decide +kernel
theorem dX9_checksum_107 : decode cX9_checksum 107 = .ok (.lload_n 1, 1) := by decide +kernel
theorem dX9_checksum_108 : decode cX9_checksum 108 = .ok (.lreturn, 1) := by decide +kernel
theorem dX9_clear_0 : decode cX9_clear 0 = .ok (.aload_n 0, 1) := by decide +kernel
theorem dX9_clear_1 : decode cX9_clear 1 = .ok (.getfield 12, 3) := by decide +kernel
theorem dX9_clear_4 : decode cX9_clear 4 = .ok (.getfield 42, 3) := by decide +kernel
theorem dX9_clear_7 : decode cX9_clear 7 = .ok (.istore_n 1, 1) := by decide +kernel
theorem dX9_clear_8 : decode cX9_clear 8 = .ok (.aload_n 0, 1) := by decide +kernel
theorem dX9_clear_9 : decode cX9_clear 9 = .ok (.getfield 12, 3) := by decide +kernel
theorem dX9_clear_12 : decode cX9_clear 12 = .ok (.invokevirtual 46, 3) := by decide +kernel
theorem dX9_clear_15 : decode cX9_clear 15 = .ok (.aload_n 0, 1) := by decide +kernel
theorem dX9_clear_16 : decode cX9_clear 16 = .ok (.getfield 19, 3) := by decide +kernel
theorem dX9_clear_19 : decode cX9_clear 19 = .ok (.invokevirtual 49, 3) := by decide +kernel
theorem dX9_clear_22 : decode cX9_clear 22 = .ok (.iload_n 1, 1) := by decide +kernel
theorem dX9_clear_23 : decode cX9_clear 23 = .ok (.ireturn, 1) := by decide +kernel
theorem dX9_clearText_0 : decode cX9_clearText 0 = .ok (.aload_n 0, 1) := by decide +kernel
theorem dX9_clearText_1 : decode cX9_clearText 1 = .ok (.getfield 26, 3) := by decide +kernel
theorem dX9_clearText_4 : decode cX9_clearText 4 = .ok (.getfield 187, 3) := by decide +kernel
theorem dX9_clearText_7 : decode cX9_clearText 7 = .ok (.getfield 196, 3) := by decide +kernel
theorem dX9_clearText_10 : decode cX9_clearText 10 = .ok (.istore_n 1, 1) := by decide +kernel
theorem dX9_clearText_11 : decode cX9_clearText 11 = .ok (.aload_n 0, 1) := by decide +kernel
theorem dX9_clearText_12 : decode cX9_clearText 12 = .ok (.getfield 26, 3) := by decide +kernel
theorem dX9_clearText_15 : decode cX9_clearText 15 = .ok (.getfield 187, 3) := by decide +kernel
theorem dX9_clearText_18 : decode cX9_clearText 18 = .ok (.invokevirtual 199, 3) := by decide +kernel
theorem dX9_clearText_21 : decode cX9_clearText 21 = .ok (.iload_n 1, 1) := by decide +kernel
theorem dX9_clearText_22 : decode cX9_clearText 22 = .ok (.ireturn, 1) := by decide +kernel
theorem dX9_compare_0 : decode cX9_compare 0 = .ok (.aload_n 0, 1) := by decide +kernel
theorem dX9_compare_1 : decode cX9_compare 1 = .ok (.getfield 12, 3) := by decide +kernel
theorem dX9_compare_4 : decode cX9_compare 4 = .ok (.iload_n 1, 1) := by decide +kernel
theorem dX9_compare_5 : decode cX9_compare 5 = .ok (.invokevirtual 64, 3) := by decide +kernel
theorem dX9_compare_8 : decode cX9_compare 8 = .ok (.ifCond .eq 21, 3) := by decide +kernel
theorem dX9_compare_11 : decode cX9_compare 11 = .ok (.aload_n 0, 1) := by decide +kernel
theorem dX9_compare_12 : decode cX9_compare 12 = .ok (.getfield 12, 3) := by decide +kernel
theorem dX9_compare_15 : decode cX9_compare 15 = .ok (.iload_n 2, 1) := by decide +kernel
theorem dX9_compare_16 : decode cX9_compare 16 = .ok (.invokevirtual 64, 3) := by decide +kernel
theorem dX9_compare_19 : decode cX9_compare 19 = .ok (.ifCond .eq 10, 3) := by decide +kernel
theorem dX9_compare_22 : decode cX9_compare 22 = .ok (.iload_n 3, 1) := by decide +kernel
theorem dX9_compare_23 : decode cX9_compare 23 = .ok (.invokestatic 112, 3) := by decide +kernel
theorem dX9_compare_26 : decode cX9_compare 26 = .ok (.ifCond .ne 7, 3) := by decide +kernel
theorem dX9_compare_29 : decode cX9_compare 29 = .ok (.sipush (-1001), 3) := by decide +kernel
theorem dX9_compare_32 : decode cX9_compare 32 = .ok (.ireturn, 1) := by decide +kernel
theorem dX9_compare_33 : decode cX9_compare 33 = .ok (.aload_n 0, 1) := by decide +kernel
theorem dX9_compare_34 : decode cX9_compare 34 = .ok (.iload_n 1, 1) := by decide +kernel
theorem dX9_compare_35 : decode cX9_compare 35 = .ok (.iload_n 3, 1) := by decide +kernel
theorem dX9_compare_36 : decode cX9_compare 36 = .ok (.iconst 0, 1) := by decide +kernel
theorem dX9_compare_37 : decode cX9_compare 37 = .ok (.invokevirtual 136, 3) := by decide +kernel
theorem dX9_compare_40 : decode cX9_compare 40 = .ok (.astore 4, 2) := by decide +kernel
theorem dX9_compare_42 : decode cX9_compare 42 = .ok (.aload_n 0, 1) := by decide +kernel
theorem dX9_compare_43 : decode cX9_compare 43 = .ok (.iload_n 2, 1) := by decide +kernel
theorem dX9_compare_44 : decode cX9_compare 44 = .ok (.iload_n 3, 1) := by decide +kernel
theorem dX9_compare_45 : decode cX9_compare 45 = .ok (.iconst 0, 1) := by decide +kernel
theorem dX9_compare_46 : decode cX9_compare 46 = .ok (.invokevirtual 136, 3) := by decide +kernel
theorem dX9_compare_49 : decode cX9_compare 49 = .ok (.astore 5, 2) := by decide +kernel
theorem dX9_compare_51 : decode cX9_compare 51 = .ok (.aload 4, 2) := by decide +kernel
theorem dX9_compare_53 : decode cX9_compare 53 = .ok (.aload 5, 2) := by decide +kernel
theorem dX9_compare_55 : decode cX9_compare 55 = .ok (.invokestatic 159, 3) := by decide +kernel
theorem dX9_compare_58 : decode cX9_compare 58 = .ok (.ireturn, 1) := by decide +kernel
theorem dX9_connect_0 : decode cX9_connect 0 = .ok (.aload_n 0, 1) := by decide +kernel
theorem dX9_connect_1 : decode cX9_connect 1 = .ok (.getfield 12, 3) := by decide +kernel
theorem dX9_connect_4 : decode cX9_connect 4 = .ok (.iload_n 1, 1) := by decide +kernel
theorem dX9_connect_5 : decode cX9_connect 5 = .ok (.iload_n 2, 1) := by decide +kernel
theorem dX9_connect_6 : decode cX9_connect 6 = .ok (.invokevirtual 60, 3) := by decide +kernel
theorem dX9_connect_9 : decode cX9_connect 9 = .ok (.ifCond .eq 21, 3) := by decide +kernel
theorem dX9_connect_12 : decode cX9_connect 12 = .ok (.iload_n 3, 1) := by decide +kernel
theorem dX9_connect_13 : decode cX9_connect 13 = .ok (.sipush (-1005), 3) := by decide +kernel
theorem dX9_connect_16 : decode cX9_connect 16 = .ok (.if_icmp .eq 18, 3) := by decide +kernel
theorem dX9_connect_19 : decode cX9_connect 19 = .ok (.aload_n 0, 1) := by decide +kernel
theorem dX9_connect_20 : decode cX9_connect 20 = .ok (.getfield 12, 3) := by decide +kernel
theorem dX9_connect_23 : decode cX9_connect 23 = .ok (.iload_n 3, 1) := by decide +kernel
theorem dX9_connect_24 : decode cX9_connect 24 = .ok (.invokevirtual 64, 3) := by decide +kernel
theorem dX9_connect_27 : decode cX9_connect 27 = .ok (.ifCond .ne 7, 3) := by decide +kernel
theorem dX9_connect_30 : decode cX9_connect 30 = .ok (.sipush (-1001), 3) := by decide +kernel
theorem dX9_connect_33 : decode cX9_connect 33 = .ok (.ireturn, 1) := by decide +kernel
theorem dX9_connect_34 : decode cX9_connect 34 = .ok (.aload_n 0, 1) := by decide +kernel
theorem dX9_connect_35 : decode cX9_connect 35 = .ok (.getfield 12, 3) := by decide +kernel
theorem dX9_connect_38 : decode cX9_connect 38 = .ok (.iload_n 1, 1) := by decide +kernel
theorem dX9_connect_39 : decode cX9_connect 39 = .ok (.invokevirtual 68, 3) := by decide +kernel
theorem dX9_connect_42 : decode cX9_connect 42 = .ok (.istore 4, 2) := by decide +kernel
theorem dX9_connect_44 : decode cX9_connect 44 = .ok (.iload_n 3, 1) := by decide +kernel
theorem dX9_connect_45 : decode cX9_connect 45 = .ok (.sipush (-1005), 3) := by decide +kernel
theorem dX9_connect_48 : decode cX9_connect 48 = .ok (.if_icmp .eq 16, 3) := by decide +kernel
theorem dX9_connect_51 : decode cX9_connect 51 = .ok (.iload 4, 2) := by decide +kernel
theorem dX9_connect_53 : decode cX9_connect 53 = .ok (.iload_n 3, 1) := by decide +kernel
theorem dX9_connect_54 : decode cX9_connect 54 = .ok (.invokestatic 71, 3) := by decide +kernel
theorem dX9_connect_57 : decode cX9_connect 57 = .ok (.ifCond .eq 7, 3) := by decide +kernel
theorem dX9_connect_60 : decode cX9_connect 60 = .ok (.sipush (-1003), 3) := by decide +kernel
theorem dX9_connect_63 : decode cX9_connect 63 = .ok (.ireturn, 1) := by decide +kernel
theorem dX9_connect_64 : decode cX9_connect 64 = .ok (.aload_n 0, 1) := by decide +kernel
theorem dX9_connect_65 : decode cX9_connect 65 = .ok (.getfield 12, 3) := by decide +kernel
theorem dX9_connect_68 : decode cX9_connect 68 = .ok (.iload_n 1, 1) := by decide +kernel
theorem dX9_connect_69 : decode cX9_connect 69 = .ok (.iload_n 2, 1) := by decide +kernel
theorem dX9_connect_70 : decode cX9_connect 70 = .ok (.iload_n 3, 1) := by decide +kernel
theorem dX9_connect_71 : decode cX9_connect 71 = .ok (.invokevirtual 74, 3) := by decide +kernel
theorem dX9_connect_74 : decode cX9_connect 74 = .ok (.iload_n 2, 1) := by decide +kernel
theorem dX9_connect_75 : decode cX9_connect 75 = .ok (.ifCond .ne 16, 3) := by decide +kernel
theorem dX9_connect_78 : decode cX9_connect 78 = .ok (.aload_n 0, 1) := by decide +kernel
theorem dX9_connect_79 : decode cX9_connect 79 = .ok (.getfield 19, 3) := by decide +kernel
theorem dX9_connect_82 : decode cX9_connect 82 = .ok (.iload 4, 2) := by decide +kernel
theorem dX9_connect_84 : decode cX9_connect 84 = .ok (.iconst 0, 1) := by decide +kernel
theorem dX9_connect_85 : decode cX9_connect 85 = .ok (.bipush 99, 2) := by decide +kernel
theorem dX9_connect_87 : decode cX9_connect 87 = .ok (.invokevirtual 78, 3) := by decide +kernel
theorem dX9_connect_90 : decode cX9_connect 90 = .ok (.ireturn, 1) := by decide +kernel
theorem dX9_connect_91 : decode cX9_connect 91 = .ok (.aload_n 0, 1) := by decide +kernel
theorem dX9_connect_92 : decode cX9_connect 92 = .ok (.getfield 12, 3) := by decide +kernel
theorem dX9_connect_95 : decode cX9_connect 95 = .ok (.getfield 82, 3) := by decide +kernel
theorem dX9_connect_98 : decode cX9_connect 98 = .ok (.iload_n 1, 1) := by decide +kernel
theorem dX9_connect_99 : decode cX9_connect 99 = .ok (.aaload, 1) := by decide +kernel
theorem dX9_connect_100 : decode cX9_connect 100 = .ok (.astore 5, 2) := by decide +kernel
theorem dX9_connect_102 : decode cX9_connect 102 = .ok (.aload_n 0, 1) := by decide +kernel
theorem dX9_connect_103 : decode cX9_connect 103 = .ok (.getfield 19, 3) := by decide +kernel
theorem dX9_connect_106 : decode cX9_connect 106 = .ok (.iload 4, 2) := by decide +kernel
theorem dX9_connect_108 : decode cX9_connect 108 = .ok (.aload 5, 2) := by decide +kernel
theorem dX9_connect_110 : decode cX9_connect 110 = .ok (.getfield 86, 3) := by decide +kernel
theorem dX9_connect_113 : decode cX9_connect 113 = .ok (.aload 5, 2) := by decide +kernel
theorem dX9_connect_115 : decode cX9_connect 115 = .ok (.getfield 91, 3) := by decide +kernel
theorem dX9_connect_118 : decode cX9_connect 118 = .ok (.invokevirtual 78, 3) := by decide +kernel
theorem dX9_connect_121 : decode cX9_connect 121 = .ok (.ireturn, 1) := by decide +kernel
theorem dX9_contains_0 : decode cX9_contains 0 = .ok (.iload_n 1, 1) := by decide +kernel
theorem dX9_contains_1 : decode cX9_contains 1 = .ok (.iconst 0, 1) := by decide +kernel
theorem dX9_contains_2 : decode cX9_contains 2 = .ok (.bipush 11, 2) := by decide +kernel
theorem dX9_contains_4 : decode cX9_contains 4 = .ok (.invokestatic 52, 3) := by decide +kernel
theorem dX9_contains_7 : decode cX9_contains 7 = .ok (.ifCond .eq 16, 3) := by decide +kernel
theorem dX9_contains_10 : decode cX9_contains 10 = .ok (.iload_n 0, 1) := by decide +kernel
theorem dX9_contains_11 : decode cX9_contains 11 = .ok (.iload_n 1, 1) := by decide +kernel
theorem dX9_contains_12 : decode cX9_contains 12 = .ok (.ishr, 1) := by decide +kernel
theorem dX9_contains_13 : decode cX9_contains 13 = .ok (.iconst 1, 1) := by decide +kernel
theorem dX9_contains_14 : decode cX9_contains 14 = .ok (.iand, 1) := by decide +kernel
theorem dX9_contains_15 : decode cX9_contains 15 = .ok (.iconst 1, 1) := by decide +kernel
theorem dX9_contains_16 : decode cX9_contains 16 = .ok (.if_icmp .ne 7, 3) := by decide +kernel
theorem dX9_contains_19 : decode cX9_contains 19 = .ok (.iconst 1, 1) := by decide +kernel
theorem dX9_contains_20 : decode cX9_contains 20 = .ok (.goto 4, 3) := by decide +kernel
theorem dX9_contains_23 : decode cX9_contains 23 = .ok (.iconst 0, 1) := by decide +kernel
theorem dX9_contains_24 : decode cX9_contains 24 = .ok (.ireturn, 1) := by decide +kernel
theorem dX9_count_0 : decode cX9_count 0 = .ok (.iload_n 1, 1) := by decide +kernel
theorem dX9_count_1 : decode cX9_count 1 = .ok (.tableswitch 75 0 4 #[35, 43, 51, 59, 67], 35) := by decide +kernel
theorem dX9_count_36 : decode cX9_count 36 = .ok (.aload_n 0, 1) := by decide +kernel
theorem dX9_count_37 : decode cX9_count 37 = .ok (.getfield 19, 3) := by decide +kernel
theorem dX9_count_40 : decode cX9_count 40 = .ok (.getfield 174, 3) := by decide +kernel
theorem dX9_count_43 : decode cX9_count 43 = .ok (.ireturn, 1) := by decide +kernel
theorem dX9_count_44 : decode cX9_count 44 = .ok (.aload_n 0, 1) := by decide +kernel
theorem dX9_count_45 : decode cX9_count 45 = .ok (.getfield 19, 3) := by decide +kernel
theorem dX9_count_48 : decode cX9_count 48 = .ok (.getfield 175, 3) := by decide +kernel
theorem dX9_count_51 : decode cX9_count 51 = .ok (.ireturn, 1) := by decide +kernel
theorem dX9_count_52 : decode cX9_count 52 = .ok (.aload_n 0, 1) := by decide +kernel
theorem dX9_count_53 : decode cX9_count 53 = .ok (.getfield 19, 3) := by decide +kernel
theorem dX9_count_56 : decode cX9_count 56 = .ok (.getfield 178, 3) := by decide +kernel
theorem dX9_count_59 : decode cX9_count 59 = .ok (.ireturn, 1) := by decide +kernel
theorem dX9_count_60 : decode cX9_count 60 = .ok (.aload_n 0, 1) := by decide +kernel
theorem dX9_count_61 : decode cX9_count 61 = .ok (.getfield 19, 3) := by decide +kernel
theorem dX9_count_64 : decode cX9_count 64 = .ok (.getfield 181, 3) := by decide +kernel
theorem dX9_count_67 : decode cX9_count 67 = .ok (.ireturn, 1) := by decide +kernel
theorem dX9_count_68 : decode cX9_count 68 = .ok (.aload_n 0, 1) := by decide +kernel
theorem dX9_count_69 : decode cX9_count 69 = .ok (.getfield 19, 3) := by decide +kernel
theorem dX9_count_72 : decode cX9_count 72 = .ok (.getfield 184, 3) := by decide +kernel
theorem dX9_count_75 : decode cX9_count 75 = .ok (.ireturn, 1) := by decide +kernel
theorem dX9_count_76 : decode cX9_count 76 = .ok (.sipush (-1001), 3) := by decide +kernel
theorem dX9_count_79 : decode cX9_count 79 = .ok (.ireturn, 1) := by decide +kernel
theorem dX9_faultDepth_0 : decode cX9_faultDepth 0 = .ok (.aload_n 0, 1) := by decide +kernel
theorem dX9_faultDepth_1 : decode cX9_faultDepth 1 = .ok (.getfield 26, 3) := by decide +kernel
theorem dX9_faultDepth_4 : decode cX9_faultDepth 4 = .ok (.aload_n 0, 1) := by decide +kernel
theorem dX9_faultDepth_5 : decode cX9_faultDepth 5 = .ok (.getfield 12, 3) := by decide +kernel
theorem dX9_faultDepth_8 : decode cX9_faultDepth 8 = .ok (.getfield 42, 3) := by decide +kernel
theorem dX9_faultDepth_11 : decode cX9_faultDepth 11 = .ok (.invokevirtual 200, 3) := by decide +kernel
theorem dX9_faultDepth_14 : decode cX9_faultDepth 14 = .ok (.pop, 1) := by decide +kernel
theorem dX9_faultDepth_15 : decode cX9_faultDepth 15 = .ok (.aload_n 0, 1) := by decide +kernel
theorem dX9_faultDepth_16 : decode cX9_faultDepth 16 = .ok (.getfield 26, 3) := by decide +kernel
theorem dX9_faultDepth_19 : decode cX9_faultDepth 19 = .ok (.getfield 203, 3) := by decide +kernel
theorem dX9_faultDepth_22 : decode cX9_faultDepth 22 = .ok (.ifCond .eq 23, 3) := by decide +kernel
theorem dX9_faultDepth_25 : decode cX9_faultDepth 25 = .ok (.aload_n 0, 1) := by decide +kernel
theorem dX9_faultDepth_26 : decode cX9_faultDepth 26 = .ok (.getfield 26, 3) := by decide +kernel
theorem dX9_faultDepth_29 : decode cX9_faultDepth 29 = .ok (.getfield 187, 3) := by decide +kernel
theorem dX9_faultDepth_32 : decode cX9_faultDepth 32 = .ok (.aload_n 0, 1) := by decide +kernel
theorem dX9_faultDepth_33 : decode cX9_faultDepth 33 = .ok (.getfield 26, 3) := by decide +kernel
theorem dX9_faultDepth_36 : decode cX9_faultDepth 36 = .ok (.getfield 207, 3) := by decide +kernel
theorem dX9_faultDepth_39 : decode cX9_faultDepth 39 = .ok (.invokevirtual 210, 3) := by decide +kernel
theorem dX9_faultDepth_42 : decode cX9_faultDepth 42 = .ok (.goto 6, 3) := by decide +kernel
theorem dX9_faultDepth_45 : decode cX9_faultDepth 45 = .ok (.sipush (-1005), 3) := by decide +kernel
theorem dX9_faultDepth_48 : decode cX9_faultDepth 48 = .ok (.ireturn, 1) := by decide +kernel
theorem dX9_faultPosition_0 : decode cX9_faultPosition 0 = .ok (.aload_n 0, 1) := by decide +kernel
theorem dX9_faultPosition_1 : decode cX9_faultPosition 1 = .ok (.getfield 26, 3) := by decide +kernel
theorem dX9_faultPosition_4 : decode cX9_faultPosition 4 = .ok (.aload_n 0, 1) := by decide +kernel
theorem dX9_faultPosition_5 : decode cX9_faultPosition 5 = .ok (.getfield 12, 3) := by decide +kernel
theorem dX9_faultPosition_8 : decode cX9_faultPosition 8 = .ok (.getfield 42, 3) := by decide +kernel
theorem dX9_faultPosition_11 : decode cX9_faultPosition 11 = .ok (.invokevirtual 200, 3) := by decide +kernel
theorem dX9_faultPosition_14 : decode cX9_faultPosition 14 = .ok (.pop, 1) := by decide +kernel
theorem dX9_faultPosition_15 : decode cX9_faultPosition 15 = .ok (.aload_n 0, 1) := by decide +kernel
theorem dX9_faultPosition_16 : decode cX9_faultPosition 16 = .ok (.getfield 26, 3) := by decide +kernel
theorem dX9_faultPosition_19 : decode cX9_faultPosition 19 = .ok (.getfield 203, 3) := by decide +kernel
theorem dX9_faultPosition_22 : decode cX9_faultPosition 22 = .ok (.ifCond .eq 13, 3) := by decide +kernel
theorem dX9_faultPosition_25 : decode cX9_faultPosition 25 = .ok (.aload_n 0, 1) := by decide +kernel
theorem dX9_faultPosition_26 : decode cX9_faultPosition 26 = .ok (.getfield 26, 3) := by decide +kernel
theorem dX9_faultPosition_29 : decode cX9_faultPosition 29 = .ok (.getfield 207, 3) := by decide +kernel
theorem dX9_faultPosition_32 : decode cX9_faultPosition 32 = .ok (.goto 6, 3) := by decide +kernel
theorem dX9_faultPosition_35 : decode cX9_faultPosition 35 = .ok (.sipush (-1005), 3) := by decide +kernel
theorem dX9_faultPosition_38 : decode cX9_faultPosition 38 = .ok (.ireturn, 1) := by decide +kernel
theorem dX9_init_0 : decode cX9_init 0 = .ok (.aload_n 0, 1) := by decide +kernel
theorem dX9_init_1 : decode cX9_init 1 = .ok (.invokespecial 3, 3) := by decide +kernel
theorem dX9_init_4 : decode cX9_init 4 = .ok (.aload_n 0, 1) := by decide +kernel
theorem dX9_init_5 : decode cX9_init 5 = .ok (.new 9, 3) := by decide +kernel
theorem dX9_init_8 : decode cX9_init 8 = .ok (.dup, 1) := by decide +kernel
theorem dX9_init_9 : decode cX9_init 9 = .ok (.invokespecial 11, 3) := by decide +kernel
theorem dX9_init_12 : decode cX9_init 12 = .ok (.putfield 12, 3) := by decide +kernel
theorem dX9_init_15 : decode cX9_init 15 = .ok (.aload_n 0, 1) := by decide +kernel
theorem dX9_init_16 : decode cX9_init 16 = .ok (.new 16, 3) := by decide +kernel
theorem dX9_init_19 : decode cX9_init 19 = .ok (.dup, 1) := by decide +kernel
theorem dX9_init_20 : decode cX9_init 20 = .ok (.invokespecial 18, 3) := by decide +kernel
theorem dX9_init_23 : decode cX9_init 23 = .ok (.putfield 19, 3) := by decide +kernel
theorem dX9_init_26 : decode cX9_init 26 = .ok (.aload_n 0, 1) := by decide +kernel
theorem dX9_init_27 : decode cX9_init 27 = .ok (.new 23, 3) := by decide +kernel
theorem dX9_init_30 : decode cX9_init 30 = .ok (.dup, 1) := by decide +kernel
theorem dX9_init_31 : decode cX9_init 31 = .ok (.invokespecial 25, 3) := by decide +kernel
theorem dX9_init_34 : decode cX9_init 34 = .ok (.putfield 26, 3) := by decide +kernel
theorem dX9_init_37 : decode cX9_init 37 = .ok (.aload_n 0, 1) := by decide +kernel
theorem dX9_init_38 : decode cX9_init 38 = .ok (.iconst 2, 1) := by decide +kernel
theorem dX9_init_39 : decode cX9_init 39 = .ok (.anewarray 9, 3) := by decide +kernel
theorem dX9_init_42 : decode cX9_init 42 = .ok (.putfield 30, 3) := by decide +kernel
theorem dX9_init_45 : decode cX9_init 45 = .ok (.aload_n 0, 1) := by decide +kernel
theorem dX9_init_46 : decode cX9_init 46 = .ok (.iconst 2, 1) := by decide +kernel
theorem dX9_init_47 : decode cX9_init 47 = .ok (.newarray .boolean, 2) := by decide +kernel
theorem dX9_init_49 : decode cX9_init 49 = .ok (.putfield 34, 3) := by decide +kernel
theorem dX9_init_52 : decode cX9_init 52 = .ok (.aload_n 0, 1) := by decide +kernel
theorem dX9_init_53 : decode cX9_init 53 = .ok (.bipush 96, 2) := by decide +kernel
theorem dX9_init_55 : decode cX9_init 55 = .ok (.newarray .int, 2) := by decide +kernel
theorem dX9_init_57 : decode cX9_init 57 = .ok (.putfield 38, 3) := by decide +kernel
theorem dX9_init_60 : decode cX9_init 60 = .ok (.iconst 0, 1) := by decide +kernel
theorem dX9_init_61 : decode cX9_init 61 = .ok (.istore_n 1, 1) := by decide +kernel
theorem dX9_init_62 : decode cX9_init 62 = .ok (.iload_n 1, 1) := by decide +kernel
theorem dX9_init_63 : decode cX9_init 63 = .ok (.iconst 2, 1) := by decide +kernel
theorem dX9_init_64 : decode cX9_init 64 = .ok (.if_icmp .ge 22, 3) := by decide +kernel
theorem dX9_init_67 : decode cX9_init 67 = .ok (.aload_n 0, 1) := by decide +kernel
theorem dX9_init_68 : decode cX9_init 68 = .ok (.getfield 30, 3) := by decide +kernel
theorem dX9_init_71 : decode cX9_init 71 = .ok (.iload_n 1, 1) := by decide +kernel
theorem dX9_init_72 : decode cX9_init 72 = .ok (.new 9, 3) := by decide +kernel
theorem dX9_init_75 : decode cX9_init 75 = .ok (.dup, 1) := by decide +kernel
theorem dX9_init_76 : decode cX9_init 76 = .ok (.invokespecial 11, 3) := by decide +kernel
theorem dX9_init_79 : decode cX9_init 79 = .ok (.aastore, 1) := by decide +kernel
theorem dX9_init_80 : decode cX9_init 80 = .ok (.iinc 1 1, 3) := by decide +kernel
theorem dX9_init_83 : decode cX9_init 83 = .ok (.goto (-21), 3) := by decide +kernel
theorem dX9_init_86 : decode cX9_init 86 = .ok (.return_, 1) := by decide +kernel
theorem dX9_input_0 : decode cX9_input 0 = .ok (.aload_n 0, 1) := by decide +kernel
theorem dX9_input_1 : decode cX9_input 1 = .ok (.getfield 12, 3) := by decide +kernel
theorem dX9_input_4 : decode cX9_input 4 = .ok (.iload_n 1, 1) := by decide +kernel
theorem dX9_input_5 : decode cX9_input 5 = .ok (.iload_n 2, 1) := by decide +kernel
theorem dX9_input_6 : decode cX9_input 6 = .ok (.invokevirtual 60, 3) := by decide +kernel
theorem dX9_input_9 : decode cX9_input 9 = .ok (.ifCond .ne 7, 3) := by decide +kernel
theorem dX9_input_12 : decode cX9_input 12 = .ok (.sipush (-1001), 3) := by decide +kernel
theorem dX9_input_15 : decode cX9_input 15 = .ok (.ireturn, 1) := by decide +kernel
theorem dX9_input_16 : decode cX9_input 16 = .ok (.aload_n 0, 1) := by decide +kernel
theorem dX9_input_17 : decode cX9_input 17 = .ok (.getfield 12, 3) := by decide +kernel
theorem dX9_input_20 : decode cX9_input 20 = .ok (.getfield 82, 3) := by decide +kernel
theorem dX9_input_23 : decode cX9_input 23 = .ok (.iload_n 1, 1) := by decide +kernel
theorem dX9_input_24 : decode cX9_input 24 = .ok (.aaload, 1) := by decide +kernel
theorem dX9_input_25 : decode cX9_input 25 = .ok (.getfield 130, 3) := by decide +kernel
theorem dX9_input_28 : decode cX9_input 28 = .ok (.iload_n 2, 1) := by decide +kernel
theorem dX9_input_29 : decode cX9_input 29 = .ok (.iaload, 1) := by decide +kernel
theorem dX9_input_30 : decode cX9_input 30 = .ok (.ireturn, 1) := by decide +kernel
theorem dX9_isCached_0 : decode cX9_isCached 0 = .ok (.aload_n 0, 1) := by decide +kernel
theorem dX9_isCached_1 : decode cX9_isCached 1 = .ok (.getfield 12, 3) := by decide +kernel
theorem dX9_isCached_4 : decode cX9_isCached 4 = .ok (.iload_n 1, 1) := by decide +kernel
theorem dX9_isCached_5 : decode cX9_isCached 5 = .ok (.invokevirtual 64, 3) := by decide +kernel
theorem dX9_isCached_8 : decode cX9_isCached 8 = .ok (.ifCond .eq 10, 3) := by decide +kernel
theorem dX9_isCached_11 : decode cX9_isCached 11 = .ok (.iload_n 2, 1) := by decide +kernel
theorem dX9_isCached_12 : decode cX9_isCached 12 = .ok (.invokestatic 112, 3) := by decide +kernel
theorem dX9_isCached_15 : decode cX9_isCached 15 = .ok (.ifCond .ne 7, 3) := by decide +kernel
theorem dX9_isCached_18 : decode cX9_isCached 18 = .ok (.sipush (-1001), 3) := by decide +kernel
theorem dX9_isCached_21 : decode cX9_isCached 21 = .ok (.ireturn, 1) := by decide +kernel
theorem dX9_isCached_22 : decode cX9_isCached 22 = .ok (.aload_n 0, 1) := by decide +kernel
theorem dX9_isCached_23 : decode cX9_isCached 23 = .ok (.getfield 19, 3) := by decide +kernel
theorem dX9_isCached_26 : decode cX9_isCached 26 = .ok (.iload_n 1, 1) := by decide +kernel
theorem dX9_isCached_27 : decode cX9_isCached 27 = .ok (.iload_n 2, 1) := by decide +kernel
theorem dX9_isCached_28 : decode cX9_isCached 28 = .ok (.invokevirtual 170, 3) := by decide +kernel
theorem dX9_isCached_31 : decode cX9_isCached 31 = .ok (.ifnonnull 7, 3) := by decide +kernel
theorem dX9_isCached_34 : decode cX9_isCached 34 = .ok (.iconst 0, 1) := by decide +kernel
theorem dX9_isCached_35 : decode cX9_isCached 35 = .ok (.goto 4, 3) := by decide +kernel
theorem dX9_isCached_38 : decode cX9_isCached 38 = .ok (.iconst 1, 1) := by decide +kernel
theorem dX9_isCached_39 : decode cX9_isCached 39 = .ok (.ireturn, 1) := by decide +kernel
theorem dX9_isChannel_0 : decode cX9_isChannel 0 = .ok (.iload_n 0, 1) := by decide +kernel
theorem dX9_isChannel_1 : decode cX9_isChannel 1 = .ok (.iconst 0, 1) := by decide +kernel
theorem dX9_isChannel_2 : decode cX9_isChannel 2 = .ok (.iconst 2, 1) := by decide +kernel
theorem dX9_isChannel_3 : decode cX9_isChannel 3 = .ok (.invokestatic 52, 3) := by decide +kernel
theorem dX9_isChannel_6 : decode cX9_isChannel 6 = .ok (.ireturn, 1) := by decide +kernel
theorem dX9_isFrame_0 : decode cX9_isFrame 0 = .ok (.iload_n 0, 1) := by decide +kernel
theorem dX9_isFrame_1 : decode cX9_isFrame 1 = .ok (.iconst 0, 1) := by decide +kernel
theorem dX9_isFrame_2 : decode cX9_isFrame 2 = .ok (.bipush 99, 2) := by decide +kernel
theorem dX9_isFrame_4 : decode cX9_isFrame 4 = .ok (.invokestatic 52, 3) := by decide +kernel
theorem dX9_isFrame_7 : decode cX9_isFrame 7 = .ok (.ireturn, 1) := by decide +kernel
theorem dX9_isIn_0 : decode cX9_isIn 0 = .ok (.iload_n 1, 1) := by decide +kernel
theorem dX9_isIn_1 : decode cX9_isIn 1 = .ok (.iload_n 0, 1) := by decide +kernel
theorem dX9_isIn_2 : decode cX9_isIn 2 = .ok (.if_icmp .gt 12, 3) := by decide +kernel
theorem dX9_isIn_5 : decode cX9_isIn 5 = .ok (.iload_n 0, 1) := by decide +kernel
theorem dX9_isIn_6 : decode cX9_isIn 6 = .ok (.iload_n 2, 1) := by decide +kernel
theorem dX9_isIn_7 : decode cX9_isIn 7 = .ok (.if_icmp .gt 7, 3) := by decide +kernel
theorem dX9_isIn_10 : decode cX9_isIn 10 = .ok (.iconst 1, 1) := by decide +kernel
theorem dX9_isIn_11 : decode cX9_isIn 11 = .ok (.goto 4, 3) := by decide +kernel
theorem dX9_isIn_14 : decode cX9_isIn 14 = .ok (.iconst 0, 1) := by decide +kernel
theorem dX9_isIn_15 : decode cX9_isIn 15 = .ok (.ireturn, 1) := by decide +kernel
theorem dX9_mix_0 : decode cX9_mix 0 = .ok (.ldc2_w 258, 3) := by decide +kernel
theorem dX9_mix_3 : decode cX9_mix 3 = .ok (.lload_n 0, 1) := by decide +kernel
theorem dX9_mix_4 : decode cX9_mix 4 = .ok (.lmul, 1) := by decide +kernel
theorem dX9_mix_5 : decode cX9_mix 5 = .ok (.iload_n 2, 1) := by decide +kernel
theorem dX9_mix_6 : decode cX9_mix 6 = .ok (.i2l, 1) := by decide +kernel
theorem dX9_mix_7 : decode cX9_mix 7 = .ok (.ladd, 1) := by decide +kernel
theorem dX9_mix_8 : decode cX9_mix 8 = .ok (.lreturn, 1) := by decide +kernel
theorem dX9_mixNode_0 : decode cX9_mixNode 0 = .ok (.lload_n 1, 1) := by decide +kernel
theorem dX9_mixNode_1 : decode cX9_mixNode 1 = .ok (.lstore 4, 2) := by decide +kernel
theorem dX9_mixNode_3 : decode cX9_mixNode 3 = .ok (.aload_n 0, 1) := by decide +kernel
theorem dX9_mixNode_4 : decode cX9_mixNode 4 = .ok (.getfield 12, 3) := by decide +kernel
theorem dX9_mixNode_7 : decode cX9_mixNode 7 = .ok (.getfield 82, 3) := by decide +kernel
theorem dX9_mixNode_10 : decode cX9_mixNode 10 = .ok (.iload_n 3, 1) := by decide +kernel
theorem dX9_mixNode_11 : decode cX9_mixNode 11 = .ok (.aaload, 1) := by decide +kernel
theorem dX9_mixNode_12 : decode cX9_mixNode 12 = .ok (.getfield 97, 3) := by decide +kernel
theorem dX9_mixNode_15 : decode cX9_mixNode 15 = .ok (.istore 6, 2) := by decide +kernel
theorem dX9_mixNode_17 : decode cX9_mixNode 17 = .ok (.iconst 0, 1) := by decide +kernel
theorem dX9_mixNode_18 : decode cX9_mixNode 18 = .ok (.istore 7, 2) := by decide +kernel
theorem dX9_mixNode_20 : decode cX9_mixNode 20 = .ok (.iload 7, 2) := by decide +kernel
theorem dX9_mixNode_22 : decode cX9_mixNode 22 = .ok (.bipush 6, 2) := by decide +kernel
theorem dX9_mixNode_24 : decode cX9_mixNode 24 = .ok (.if_icmp .ge 23, 3) := by decide +kernel
theorem dX9_mixNode_27 : decode cX9_mixNode 27 = .ok (.lload 4, 2) := by decide +kernel
theorem dX9_mixNode_29 : decode cX9_mixNode 29 = .ok (.aload_n 0, 1) := by decide +kernel
theorem dX9_mixNode_30 : decode cX9_mixNode 30 = .ok (.iload_n 3, 1) := by decide +kernel
theorem dX9_mixNode_31 : decode cX9_mixNode 31 = .ok (.iload 7, 2) := by decide +kernel
theorem dX9_mixNode_33 : decode cX9_mixNode 33 = .ok (.invokevirtual 245, 3) := by decide +kernel
theorem dX9_mixNode_36 : decode cX9_mixNode 36 = .ok (.invokestatic 232, 3) := by decide +kernel
theorem dX9_mixNode_39 : decode cX9_mixNode 39 = .ok (.lstore 4, 2) := by decide +kernel
theorem dX9_mixNode_41 : decode cX9_mixNode 41 = .ok (.iinc 7 1, 3) := by decide +kernel
theorem dX9_mixNode_44 : decode cX9_mixNode 44 = .ok (.goto (-24), 3) := by decide +kernel
theorem dX9_mixNode_47 : decode cX9_mixNode 47 = .ok (.iconst 0, 1) := by decide +kernel
theorem dX9_mixNode_48 : decode cX9_mixNode 48 = .ok (.istore 7, 2) := by decide +kernel
theorem dX9_mixNode_50 : decode cX9_mixNode 50 = .ok (.iload 7, 2) := by decide +kernel
theorem dX9_mixNode_52 : decode cX9_mixNode 52 = .ok (.iload 6, 2) := by decide +kernel
theorem dX9_mixNode_54 : decode cX9_mixNode 54 = .ok (.invokestatic 248, 3) := by decide +kernel
theorem dX9_mixNode_57 : decode cX9_mixNode 57 = .ok (.if_icmp .ge 23, 3) := by decide +kernel
theorem dX9_mixNode_60 : decode cX9_mixNode 60 = .ok (.lload 4, 2) := by decide +kernel
theorem dX9_mixNode_62 : decode cX9_mixNode 62 = .ok (.aload_n 0, 1) := by decide +kernel
theorem dX9_mixNode_63 : decode cX9_mixNode 63 = .ok (.iload_n 3, 1) := by decide +kernel
theorem dX9_mixNode_64 : decode cX9_mixNode 64 = .ok (.iload 7, 2) := by decide +kernel
theorem dX9_mixNode_66 : decode cX9_mixNode 66 = .ok (.invokevirtual 250, 3) := by decide +kernel
theorem dX9_mixNode_69 : decode cX9_mixNode 69 = .ok (.invokestatic 232, 3) := by decide +kernel
theorem dX9_mixNode_72 : decode cX9_mixNode 72 = .ok (.lstore 4, 2) := by decide +kernel
theorem dX9_mixNode_74 : decode cX9_mixNode 74 = .ok (.iinc 7 1, 3) := by decide +kernel
theorem dX9_mixNode_77 : decode cX9_mixNode 77 = .ok (.goto (-27), 3) := by decide +kernel
theorem dX9_mixNode_80 : decode cX9_mixNode 80 = .ok (.iconst 0, 1) := by decide +kernel
theorem dX9_mixNode_81 : decode cX9_mixNode 81 = .ok (.istore 7, 2) := by decide +kernel
theorem dX9_mixNode_83 : decode cX9_mixNode 83 = .ok (.iload 7, 2) := by decide +kernel
theorem dX9_mixNode_85 : decode cX9_mixNode 85 = .ok (.iload 6, 2) := by decide +kernel
theorem dX9_mixNode_87 : decode cX9_mixNode 87 = .ok (.invokestatic 253, 3) := by decide +kernel
theorem dX9_mixNode_90 : decode cX9_mixNode 90 = .ok (.if_icmp .ge 23, 3) := by decide +kernel
theorem dX9_mixNode_93 : decode cX9_mixNode 93 = .ok (.lload 4, 2) := by decide +kernel
theorem dX9_mixNode_95 : decode cX9_mixNode 95 = .ok (.aload_n 0, 1) := by decide +kernel
theorem dX9_mixNode_96 : decode cX9_mixNode 96 = .ok (.iload_n 3, 1) := by decide +kernel
theorem dX9_mixNode_97 : decode cX9_mixNode 97 = .ok (.iload 7, 2) := by decide +kernel
theorem dX9_mixNode_99 : decode cX9_mixNode 99 = .ok (.invokevirtual 255, 3) := by decide +kernel
theorem dX9_mixNode_102 : decode cX9_mixNode 102 = .ok (.invokestatic 232, 3) := by decide +kernel
theorem dX9_mixNode_105 : decode cX9_mixNode 105 = .ok (.lstore 4, 2) := by decide +kernel
theorem dX9_mixNode_107 : decode cX9_mixNode 107 = .ok (.iinc 7 1, 3) := by decide +kernel
theorem dX9_mixNode_110 : decode cX9_mixNode 110 = .ok (.goto (-27), 3) := by decide +kernel
theorem dX9_mixNode_113 : decode cX9_mixNode 113 = .ok (.lload 4, 2) := by decide +kernel
theorem dX9_mixNode_115 : decode cX9_mixNode 115 = .ok (.lreturn, 1) := by decide +kernel
theorem dX9_node_0 : decode cX9_node 0 = .ok (.aload_n 0, 1) := by decide +kernel
theorem dX9_node_1 : decode cX9_node 1 = .ok (.getfield 12, 3) := by decide +kernel
theorem dX9_node_4 : decode cX9_node 4 = .ok (.iload_n 1, 1) := by decide +kernel
theorem dX9_node_5 : decode cX9_node 5 = .ok (.invokevirtual 64, 3) := by decide +kernel
theorem dX9_node_8 : decode cX9_node 8 = .ok (.ifCond .ne 7, 3) := by decide +kernel
theorem dX9_node_11 : decode cX9_node 11 = .ok (.sipush (-1001), 3) := by decide +kernel
theorem dX9_node_14 : decode cX9_node 14 = .ok (.ireturn, 1) := by decide +kernel
theorem dX9_node_15 : decode cX9_node 15 = .ok (.iload_n 2, 1) := by decide +kernel
theorem dX9_node_16 : decode cX9_node 16 = .ok (.tableswitch 111 0 5 #[40, 53, 66, 79, 91, 101], 40) := by decide +kernel
theorem dX9_node_56 : decode cX9_node 56 = .ok (.aload_n 0, 1) := by decide +kernel
theorem dX9_node_57 : decode cX9_node 57 = .ok (.getfield 12, 3) := by decide +kernel
theorem dX9_node_60 : decode cX9_node 60 = .ok (.getfield 82, 3) := by decide +kernel
theorem dX9_node_63 : decode cX9_node 63 = .ok (.iload_n 1, 1) := by decide +kernel
theorem dX9_node_64 : decode cX9_node 64 = .ok (.aaload, 1) := by decide +kernel
theorem dX9_node_65 : decode cX9_node 65 = .ok (.getfield 97, 3) := by decide +kernel
theorem dX9_node_68 : decode cX9_node 68 = .ok (.ireturn, 1) := by decide +kernel
theorem dX9_node_69 : decode cX9_node 69 = .ok (.aload_n 0, 1) := by decide +kernel
theorem dX9_node_70 : decode cX9_node 70 = .ok (.getfield 12, 3) := by decide +kernel
theorem dX9_node_73 : decode cX9_node 73 = .ok (.getfield 82, 3) := by decide +kernel
theorem dX9_node_76 : decode cX9_node 76 = .ok (.iload_n 1, 1) := by decide +kernel
theorem dX9_node_77 : decode cX9_node 77 = .ok (.aaload, 1) := by decide +kernel
theorem dX9_node_78 : decode cX9_node 78 = .ok (.getfield 86, 3) := by decide +kernel
theorem dX9_node_81 : decode cX9_node 81 = .ok (.ireturn, 1) := by decide +kernel
theorem dX9_node_82 : decode cX9_node 82 = .ok (.aload_n 0, 1) := by decide +kernel
theorem dX9_node_83 : decode cX9_node 83 = .ok (.getfield 12, 3) := by decide +kernel
theorem dX9_node_86 : decode cX9_node 86 = .ok (.getfield 82, 3) := by decide +kernel
theorem dX9_node_89 : decode cX9_node 89 = .ok (.iload_n 1, 1) := by decide +kernel
theorem dX9_node_90 : decode cX9_node 90 = .ok (.aaload, 1) := by decide +kernel
theorem dX9_node_91 : decode cX9_node 91 = .ok (.getfield 91, 3) := by decide +kernel
theorem dX9_node_94 : decode cX9_node 94 = .ok (.ireturn, 1) := by decide +kernel
theorem dX9_node_95 : decode cX9_node 95 = .ok (.aload_n 0, 1) := by decide +kernel
theorem dX9_node_96 : decode cX9_node 96 = .ok (.getfield 12, 3) := by decide +kernel
theorem dX9_node_99 : decode cX9_node 99 = .ok (.iload_n 1, 1) := by decide +kernel
theorem dX9_node_100 : decode cX9_node 100 = .ok (.invokevirtual 68, 3) := by decide +kernel
theorem dX9_node_103 : decode cX9_node 103 = .ok (.invokestatic 119, 3) := by decide +kernel
theorem dX9_node_106 : decode cX9_node 106 = .ok (.ireturn, 1) := by decide +kernel
theorem dX9_node_107 : decode cX9_node 107 = .ok (.aload_n 0, 1) := by decide +kernel
theorem dX9_node_108 : decode cX9_node 108 = .ok (.getfield 12, 3) := by decide +kernel
theorem dX9_node_111 : decode cX9_node 111 = .ok (.getfield 124, 3) := by decide +kernel
theorem dX9_node_114 : decode cX9_node 114 = .ok (.iload_n 1, 1) := by decide +kernel
theorem dX9_node_115 : decode cX9_node 115 = .ok (.iaload, 1) := by decide +kernel
theorem dX9_node_116 : decode cX9_node 116 = .ok (.ireturn, 1) := by decide +kernel
theorem dX9_node_117 : decode cX9_node 117 = .ok (.aload_n 0, 1) := by decide +kernel
theorem dX9_node_118 : decode cX9_node 118 = .ok (.getfield 12, 3) := by decide +kernel
theorem dX9_node_121 : decode cX9_node 121 = .ok (.getfield 127, 3) := by decide +kernel
theorem dX9_node_124 : decode cX9_node 124 = .ok (.iload_n 1, 1) := by decide +kernel
theorem dX9_node_125 : decode cX9_node 125 = .ok (.iaload, 1) := by decide +kernel
theorem dX9_node_126 : decode cX9_node 126 = .ok (.ireturn, 1) := by decide +kernel
theorem dX9_node_127 : decode cX9_node 127 = .ok (.sipush (-1002), 3) := by decide +kernel
theorem dX9_node_130 : decode cX9_node 130 = .ok (.ireturn, 1) := by decide +kernel
theorem dX9_nodes_0 : decode cX9_nodes 0 = .ok (.aload_n 0, 1) := by decide +kernel
theorem dX9_nodes_1 : decode cX9_nodes 1 = .ok (.getfield 12, 3) := by decide +kernel
theorem dX9_nodes_4 : decode cX9_nodes 4 = .ok (.getfield 42, 3) := by decide +kernel
theorem dX9_nodes_7 : decode cX9_nodes 7 = .ok (.ireturn, 1) := by decide +kernel
theorem dX9_parameter_0 : decode cX9_parameter 0 = .ok (.aload_n 0, 1) := by decide +kernel
theorem dX9_parameter_1 : decode cX9_parameter 1 = .ok (.getfield 12, 3) := by decide +kernel
theorem dX9_parameter_4 : decode cX9_parameter 4 = .ok (.iload_n 1, 1) := by decide +kernel
theorem dX9_parameter_5 : decode cX9_parameter 5 = .ok (.iload_n 2, 1) := by decide +kernel
theorem dX9_parameter_6 : decode cX9_parameter 6 = .ok (.invokevirtual 94, 3) := by decide +kernel
theorem dX9_parameter_9 : decode cX9_parameter 9 = .ok (.ifCond .ne 7, 3) := by decide +kernel
theorem dX9_parameter_12 : decode cX9_parameter 12 = .ok (.sipush (-1001), 3) := by decide +kernel
theorem dX9_parameter_15 : decode cX9_parameter 15 = .ok (.ireturn, 1) := by decide +kernel
theorem dX9_parameter_16 : decode cX9_parameter 16 = .ok (.aload_n 0, 1) := by decide +kernel
theorem dX9_parameter_17 : decode cX9_parameter 17 = .ok (.getfield 12, 3) := by decide +kernel
theorem dX9_parameter_20 : decode cX9_parameter 20 = .ok (.getfield 82, 3) := by decide +kernel
theorem dX9_parameter_23 : decode cX9_parameter 23 = .ok (.iload_n 1, 1) := by decide +kernel
theorem dX9_parameter_24 : decode cX9_parameter 24 = .ok (.aaload, 1) := by decide +kernel
theorem dX9_parameter_25 : decode cX9_parameter 25 = .ok (.getfield 109, 3) := by decide +kernel
theorem dX9_parameter_28 : decode cX9_parameter 28 = .ok (.iload_n 2, 1) := by decide +kernel
theorem dX9_parameter_29 : decode cX9_parameter 29 = .ok (.iaload, 1) := by decide +kernel
theorem dX9_parameter_30 : decode cX9_parameter 30 = .ok (.ireturn, 1) := by decide +kernel
theorem dX9_restore_0 : decode cX9_restore 0 = .ok (.iload_n 1, 1) := by decide +kernel
theorem dX9_restore_1 : decode cX9_restore 1 = .ok (.iconst 0, 1) := by decide +kernel
theorem dX9_restore_2 : decode cX9_restore 2 = .ok (.iconst 1, 1) := by decide +kernel
theorem dX9_restore_3 : decode cX9_restore 3 = .ok (.invokestatic 52, 3) := by decide +kernel
theorem dX9_restore_6 : decode cX9_restore 6 = .ok (.ifCond .ne 7, 3) := by decide +kernel
theorem dX9_restore_9 : decode cX9_restore 9 = .ok (.sipush (-1001), 3) := by decide +kernel
theorem dX9_restore_12 : decode cX9_restore 12 = .ok (.ireturn, 1) := by decide +kernel
theorem dX9_restore_13 : decode cX9_restore 13 = .ok (.aload_n 0, 1) := by decide +kernel
theorem dX9_restore_14 : decode cX9_restore 14 = .ok (.getfield 34, 3) := by decide +kernel
theorem dX9_restore_17 : decode cX9_restore 17 = .ok (.iload_n 1, 1) := by decide +kernel
theorem dX9_restore_18 : decode cX9_restore 18 = .ok (.baload, 1) := by decide +kernel
theorem dX9_restore_19 : decode cX9_restore 19 = .ok (.ifCond .ne 7, 3) := by decide +kernel
theorem dX9_restore_22 : decode cX9_restore 22 = .ok (.sipush (-1003), 3) := by decide +kernel
theorem dX9_restore_25 : decode cX9_restore 25 = .ok (.ireturn, 1) := by decide +kernel
theorem dX9_restore_26 : decode cX9_restore 26 = .ok (.aload_n 0, 1) := by decide +kernel
theorem dX9_restore_27 : decode cX9_restore 27 = .ok (.getfield 12, 3) := by decide +kernel
theorem dX9_restore_30 : decode cX9_restore 30 = .ok (.aload_n 0, 1) := by decide +kernel
theorem dX9_restore_31 : decode cX9_restore 31 = .ok (.getfield 30, 3) := by decide +kernel
theorem dX9_restore_34 : decode cX9_restore 34 = .ok (.iload_n 1, 1) := by decide +kernel
theorem dX9_restore_35 : decode cX9_restore 35 = .ok (.aaload, 1) := by decide +kernel
theorem dX9_restore_36 : decode cX9_restore 36 = .ok (.invokevirtual 223, 3) := by decide +kernel
theorem dX9_restore_39 : decode cX9_restore 39 = .ok (.aload_n 0, 1) := by decide +kernel
theorem dX9_restore_40 : decode cX9_restore 40 = .ok (.getfield 19, 3) := by decide +kernel
theorem dX9_restore_43 : decode cX9_restore 43 = .ok (.invokevirtual 49, 3) := by decide +kernel
theorem dX9_restore_46 : decode cX9_restore 46 = .ok (.aload_n 0, 1) := by decide +kernel
theorem dX9_restore_47 : decode cX9_restore 47 = .ok (.getfield 12, 3) := by decide +kernel
theorem dX9_restore_50 : decode cX9_restore 50 = .ok (.getfield 42, 3) := by decide +kernel
theorem dX9_restore_53 : decode cX9_restore 53 = .ok (.ireturn, 1) := by decide +kernel
theorem dX9_save_0 : decode cX9_save 0 = .ok (.iload_n 1, 1) := by decide +kernel
theorem dX9_save_1 : decode cX9_save 1 = .ok (.iconst 0, 1) := by decide +kernel
theorem dX9_save_2 : decode cX9_save 2 = .ok (.iconst 1, 1) := by decide +kernel
theorem dX9_save_3 : decode cX9_save 3 = .ok (.invokestatic 52, 3) := by decide +kernel
theorem dX9_save_6 : decode cX9_save 6 = .ok (.ifCond .ne 7, 3) := by decide +kernel
theorem dX9_save_9 : decode cX9_save 9 = .ok (.sipush (-1001), 3) := by decide +kernel
theorem dX9_save_12 : decode cX9_save 12 = .ok (.ireturn, 1) := by decide +kernel
theorem dX9_save_13 : decode cX9_save 13 = .ok (.aload_n 0, 1) := by decide +kernel
theorem dX9_save_14 : decode cX9_save 14 = .ok (.getfield 30, 3) := by decide +kernel
theorem dX9_save_17 : decode cX9_save 17 = .ok (.iload_n 1, 1) := by decide +kernel
theorem dX9_save_18 : decode cX9_save 18 = .ok (.aaload, 1) := by decide +kernel
theorem dX9_save_19 : decode cX9_save 19 = .ok (.aload_n 0, 1) := by decide +kernel
theorem dX9_save_20 : decode cX9_save 20 = .ok (.getfield 12, 3) := by decide +kernel
theorem dX9_save_23 : decode cX9_save 23 = .ok (.invokevirtual 223, 3) := by decide +kernel
theorem dX9_save_26 : decode cX9_save 26 = .ok (.aload_n 0, 1) := by decide +kernel
theorem dX9_save_27 : decode cX9_save 27 = .ok (.getfield 34, 3) := by decide +kernel
theorem dX9_save_30 : decode cX9_save 30 = .ok (.iload_n 1, 1) := by decide +kernel
theorem dX9_save_31 : decode cX9_save 31 = .ok (.iconst 1, 1) := by decide +kernel
theorem dX9_save_32 : decode cX9_save 32 = .ok (.bastore, 1) := by decide +kernel
theorem dX9_save_33 : decode cX9_save 33 = .ok (.aload_n 0, 1) := by decide +kernel
theorem dX9_save_34 : decode cX9_save 34 = .ok (.getfield 12, 3) := by decide +kernel
theorem dX9_save_37 : decode cX9_save 37 = .ok (.getfield 42, 3) := by decide +kernel
theorem dX9_save_40 : decode cX9_save 40 = .ok (.ireturn, 1) := by decide +kernel
theorem dX9_scope_0 : decode cX9_scope 0 = .ok (.iload 4, 2) := by decide +kernel
theorem dX9_scope_2 : decode cX9_scope 2 = .ok (.iconst 0, 1) := by decide +kernel
theorem dX9_scope_3 : decode cX9_scope 3 = .ok (.bipush 15, 2) := by decide +kernel
theorem dX9_scope_5 : decode cX9_scope 5 = .ok (.invokestatic 52, 3) := by decide +kernel
theorem dX9_scope_8 : decode cX9_scope 8 = .ok (.istore 5, 2) := by decide +kernel
theorem dX9_scope_10 : decode cX9_scope 10 = .ok (.aload_n 0, 1) := by decide +kernel
theorem dX9_scope_11 : decode cX9_scope 11 = .ok (.getfield 12, 3) := by decide +kernel
theorem dX9_scope_14 : decode cX9_scope 14 = .ok (.iload_n 1, 1) := by decide +kernel
theorem dX9_scope_15 : decode cX9_scope 15 = .ok (.invokevirtual 64, 3) := by decide +kernel
theorem dX9_scope_18 : decode cX9_scope 18 = .ok (.ifCond .eq 22, 3) := by decide +kernel
theorem dX9_scope_21 : decode cX9_scope 21 = .ok (.iload_n 2, 1) := by decide +kernel
theorem dX9_scope_22 : decode cX9_scope 22 = .ok (.invokestatic 112, 3) := by decide +kernel
theorem dX9_scope_25 : decode cX9_scope 25 = .ok (.ifCond .eq 15, 3) := by decide +kernel
theorem dX9_scope_28 : decode cX9_scope 28 = .ok (.iload_n 3, 1) := by decide +kernel
theorem dX9_scope_29 : decode cX9_scope 29 = .ok (.invokestatic 133, 3) := by decide +kernel
theorem dX9_scope_32 : decode cX9_scope 32 = .ok (.ifCond .eq 8, 3) := by decide +kernel
theorem dX9_scope_35 : decode cX9_scope 35 = .ok (.iload 5, 2) := by decide +kernel
theorem dX9_scope_37 : decode cX9_scope 37 = .ok (.ifCond .ne 7, 3) := by decide +kernel
theorem dX9_scope_40 : decode cX9_scope 40 = .ok (.sipush (-1001), 3) := by decide +kernel
theorem dX9_scope_43 : decode cX9_scope 43 = .ok (.ireturn, 1) := by decide +kernel
theorem dX9_scope_44 : decode cX9_scope 44 = .ok (.aload_n 0, 1) := by decide +kernel
theorem dX9_scope_45 : decode cX9_scope 45 = .ok (.iload_n 1, 1) := by decide +kernel
theorem dX9_scope_46 : decode cX9_scope 46 = .ok (.iload_n 2, 1) := by decide +kernel
theorem dX9_scope_47 : decode cX9_scope 47 = .ok (.iconst 0, 1) := by decide +kernel
theorem dX9_scope_48 : decode cX9_scope 48 = .ok (.invokevirtual 136, 3) := by decide +kernel
theorem dX9_scope_51 : decode cX9_scope 51 = .ok (.iload_n 3, 1) := by decide +kernel
theorem dX9_scope_52 : decode cX9_scope 52 = .ok (.iload 4, 2) := by decide +kernel
theorem dX9_scope_54 : decode cX9_scope 54 = .ok (.invokestatic 140, 3) := by decide +kernel
theorem dX9_scope_57 : decode cX9_scope 57 = .ok (.ireturn, 1) := by decide +kernel
theorem dX9_set_0 : decode cX9_set 0 = .ok (.aload_n 0, 1) := by decide +kernel
theorem dX9_set_1 : decode cX9_set 1 = .ok (.getfield 12, 3) := by decide +kernel
theorem dX9_set_4 : decode cX9_set 4 = .ok (.iload_n 1, 1) := by decide +kernel
theorem dX9_set_5 : decode cX9_set 5 = .ok (.iload_n 2, 1) := by decide +kernel
theorem dX9_set_6 : decode cX9_set 6 = .ok (.invokevirtual 94, 3) := by decide +kernel
theorem dX9_set_9 : decode cX9_set 9 = .ok (.ifCond .ne 7, 3) := by decide +kernel
theorem dX9_set_12 : decode cX9_set 12 = .ok (.sipush (-1001), 3) := by decide +kernel
theorem dX9_set_15 : decode cX9_set 15 = .ok (.ireturn, 1) := by decide +kernel
theorem dX9_set_16 : decode cX9_set 16 = .ok (.aload_n 0, 1) := by decide +kernel
theorem dX9_set_17 : decode cX9_set 17 = .ok (.getfield 12, 3) := by decide +kernel
theorem dX9_set_20 : decode cX9_set 20 = .ok (.getfield 82, 3) := by decide +kernel
theorem dX9_set_23 : decode cX9_set 23 = .ok (.iload_n 1, 1) := by decide +kernel
theorem dX9_set_24 : decode cX9_set 24 = .ok (.aaload, 1) := by decide +kernel
theorem dX9_set_25 : decode cX9_set 25 = .ok (.astore 4, 2) := by decide +kernel
theorem dX9_set_27 : decode cX9_set 27 = .ok (.aload 4, 2) := by decide +kernel
theorem dX9_set_29 : decode cX9_set 29 = .ok (.getfield 97, 3) := by decide +kernel
theorem dX9_set_32 : decode cX9_set 32 = .ok (.istore 5, 2) := by decide +kernel
theorem dX9_set_34 : decode cX9_set 34 = .ok (.iload_n 3, 1) := by decide +kernel
theorem dX9_set_35 : decode cX9_set 35 = .ok (.iload 5, 2) := by decide +kernel
theorem dX9_set_37 : decode cX9_set 37 = .ok (.iload_n 2, 1) := by decide +kernel
theorem dX9_set_38 : decode cX9_set 38 = .ok (.invokestatic 100, 3) := by decide +kernel
theorem dX9_set_41 : decode cX9_set 41 = .ok (.iload 5, 2) := by decide +kernel
theorem dX9_set_43 : decode cX9_set 43 = .ok (.iload_n 2, 1) := by decide +kernel
theorem dX9_set_44 : decode cX9_set 44 = .ok (.invokestatic 106, 3) := by decide +kernel
theorem dX9_set_47 : decode cX9_set 47 = .ok (.invokestatic 52, 3) := by decide +kernel
theorem dX9_set_50 : decode cX9_set 50 = .ok (.ifCond .ne 7, 3) := by decide +kernel
theorem dX9_set_53 : decode cX9_set 53 = .ok (.sipush (-1002), 3) := by decide +kernel
theorem dX9_set_56 : decode cX9_set 56 = .ok (.ireturn, 1) := by decide +kernel
theorem dX9_set_57 : decode cX9_set 57 = .ok (.aload 4, 2) := by decide +kernel
theorem dX9_set_59 : decode cX9_set 59 = .ok (.getfield 109, 3) := by decide +kernel
theorem dX9_set_62 : decode cX9_set 62 = .ok (.iload_n 2, 1) := by decide +kernel
theorem dX9_set_63 : decode cX9_set 63 = .ok (.iload_n 3, 1) := by decide +kernel
theorem dX9_set_64 : decode cX9_set 64 = .ok (.iastore, 1) := by decide +kernel
theorem dX9_set_65 : decode cX9_set 65 = .ok (.aload_n 0, 1) := by decide +kernel
theorem dX9_set_66 : decode cX9_set 66 = .ok (.getfield 19, 3) := by decide +kernel
theorem dX9_set_69 : decode cX9_set 69 = .ok (.aload_n 0, 1) := by decide +kernel
theorem dX9_set_70 : decode cX9_set 70 = .ok (.getfield 12, 3) := by decide +kernel
theorem dX9_set_73 : decode cX9_set 73 = .ok (.iload_n 1, 1) := by decide +kernel
theorem dX9_set_74 : decode cX9_set 74 = .ok (.invokevirtual 68, 3) := by decide +kernel
theorem dX9_set_77 : decode cX9_set 77 = .ok (.aload 4, 2) := by decide +kernel
theorem dX9_set_79 : decode cX9_set 79 = .ok (.getfield 86, 3) := by decide +kernel
theorem dX9_set_82 : decode cX9_set 82 = .ok (.aload 4, 2) := by decide +kernel
theorem dX9_set_84 : decode cX9_set 84 = .ok (.getfield 91, 3) := by decide +kernel
theorem dX9_set_87 : decode cX9_set 87 = .ok (.invokevirtual 78, 3) := by decide +kernel
theorem dX9_set_90 : decode cX9_set 90 = .ok (.ireturn, 1) := by decide +kernel
theorem dX9_setRange_0 : decode cX9_setRange 0 = .ok (.aload_n 0, 1) := by decide +kernel
theorem dX9_setRange_1 : decode cX9_setRange 1 = .ok (.getfield 12, 3) := by decide +kernel
theorem dX9_setRange_4 : decode cX9_setRange 4 = .ok (.iload_n 1, 1) := by decide +kernel
theorem dX9_setRange_5 : decode cX9_setRange 5 = .ok (.invokevirtual 64, 3) := by decide +kernel
theorem dX9_setRange_8 : decode cX9_setRange 8 = .ok (.ifCond .ne 7, 3) := by decide +kernel
theorem dX9_setRange_11 : decode cX9_setRange 11 = .ok (.sipush (-1001), 3) := by decide +kernel
theorem dX9_setRange_14 : decode cX9_setRange 14 = .ok (.ireturn, 1) := by decide +kernel
theorem dX9_setRange_15 : decode cX9_setRange 15 = .ok (.iload_n 2, 1) := by decide +kernel
theorem dX9_setRange_16 : decode cX9_setRange 16 = .ok (.invokestatic 112, 3) := by decide +kernel
theorem dX9_setRange_19 : decode cX9_setRange 19 = .ok (.ifCond .eq 13, 3) := by decide +kernel
theorem dX9_setRange_22 : decode cX9_setRange 22 = .ok (.iload_n 3, 1) := by decide +kernel
theorem dX9_setRange_23 : decode cX9_setRange 23 = .ok (.iload_n 2, 1) := by decide +kernel
theorem dX9_setRange_24 : decode cX9_setRange 24 = .ok (.bipush 99, 2) := by decide +kernel
theorem dX9_setRange_26 : decode cX9_setRange 26 = .ok (.invokestatic 52, 3) := by decide +kernel
theorem dX9_setRange_29 : decode cX9_setRange 29 = .ok (.ifCond .ne 7, 3) := by decide +kernel
theorem dX9_setRange_32 : decode cX9_setRange 32 = .ok (.sipush (-1002), 3) := by decide +kernel
theorem dX9_setRange_35 : decode cX9_setRange 35 = .ok (.ireturn, 1) := by decide +kernel
theorem dX9_setRange_36 : decode cX9_setRange 36 = .ok (.aload_n 0, 1) := by decide +kernel
theorem dX9_setRange_37 : decode cX9_setRange 37 = .ok (.getfield 12, 3) := by decide +kernel
theorem dX9_setRange_40 : decode cX9_setRange 40 = .ok (.getfield 82, 3) := by decide +kernel
theorem dX9_setRange_43 : decode cX9_setRange 43 = .ok (.iload_n 1, 1) := by decide +kernel
theorem dX9_setRange_44 : decode cX9_setRange 44 = .ok (.aaload, 1) := by decide +kernel
theorem dX9_setRange_45 : decode cX9_setRange 45 = .ok (.astore 4, 2) := by decide +kernel
theorem dX9_setRange_47 : decode cX9_setRange 47 = .ok (.aload 4, 2) := by decide +kernel
theorem dX9_setRange_49 : decode cX9_setRange 49 = .ok (.getfield 86, 3) := by decide +kernel
theorem dX9_setRange_52 : decode cX9_setRange 52 = .ok (.istore 5, 2) := by decide +kernel
theorem dX9_setRange_54 : decode cX9_setRange 54 = .ok (.aload 4, 2) := by decide +kernel
theorem dX9_setRange_56 : decode cX9_setRange 56 = .ok (.getfield 91, 3) := by decide +kernel
theorem dX9_setRange_59 : decode cX9_setRange 59 = .ok (.istore 6, 2) := by decide +kernel
theorem dX9_setRange_61 : decode cX9_setRange 61 = .ok (.aload 4, 2) := by decide +kernel
theorem dX9_setRange_63 : decode cX9_setRange 63 = .ok (.iload_n 2, 1) := by decide +kernel
theorem dX9_setRange_64 : decode cX9_setRange 64 = .ok (.putfield 86, 3) := by decide +kernel
theorem dX9_setRange_67 : decode cX9_setRange 67 = .ok (.aload 4, 2) := by decide +kernel
theorem dX9_setRange_69 : decode cX9_setRange 69 = .ok (.iload_n 3, 1) := by decide +kernel
theorem dX9_setRange_70 : decode cX9_setRange 70 = .ok (.putfield 91, 3) := by decide +kernel
theorem dX9_setRange_73 : decode cX9_setRange 73 = .ok (.aload_n 0, 1) := by decide +kernel
theorem dX9_setRange_74 : decode cX9_setRange 74 = .ok (.getfield 19, 3) := by decide +kernel
theorem dX9_setRange_77 : decode cX9_setRange 77 = .ok (.aload_n 0, 1) := by decide +kernel
theorem dX9_setRange_78 : decode cX9_setRange 78 = .ok (.getfield 12, 3) := by decide +kernel
theorem dX9_setRange_81 : decode cX9_setRange 81 = .ok (.iload_n 1, 1) := by decide +kernel
theorem dX9_setRange_82 : decode cX9_setRange 82 = .ok (.invokevirtual 68, 3) := by decide +kernel
theorem dX9_setRange_85 : decode cX9_setRange 85 = .ok (.iload 5, 2) := by decide +kernel
theorem dX9_setRange_87 : decode cX9_setRange 87 = .ok (.iload 6, 2) := by decide +kernel
theorem dX9_setRange_89 : decode cX9_setRange 89 = .ok (.iload_n 2, 1) := by decide +kernel
theorem dX9_setRange_90 : decode cX9_setRange 90 = .ok (.iload_n 3, 1) := by decide +kernel
theorem dX9_setRange_91 : decode cX9_setRange 91 = .ok (.invokevirtual 115, 3) := by decide +kernel
theorem dX9_setRange_94 : decode cX9_setRange 94 = .ok (.ireturn, 1) := by decide +kernel
theorem dX9_setRoom_0 : decode cX9_setRoom 0 = .ok (.iload_n 1, 1) := by decide +kernel
theorem dX9_setRoom_1 : decode cX9_setRoom 1 = .ok (.bipush 12, 2) := by decide +kernel
theorem dX9_setRoom_3 : decode cX9_setRoom 3 = .ok (.bipush 48, 2) := by decide +kernel
theorem dX9_setRoom_5 : decode cX9_setRoom 5 = .ok (.invokestatic 52, 3) := by decide +kernel
theorem dX9_setRoom_8 : decode cX9_setRoom 8 = .ok (.ifCond .ne 7, 3) := by decide +kernel
theorem dX9_setRoom_11 : decode cX9_setRoom 11 = .ok (.sipush (-1002), 3) := by decide +kernel
theorem dX9_setRoom_14 : decode cX9_setRoom 14 = .ok (.ireturn, 1) := by decide +kernel
theorem dX9_setRoom_15 : decode cX9_setRoom 15 = .ok (.aload_n 0, 1) := by decide +kernel
theorem dX9_setRoom_16 : decode cX9_setRoom 16 = .ok (.getfield 19, 3) := by decide +kernel
theorem dX9_setRoom_19 : decode cX9_setRoom 19 = .ok (.getfield 163, 3) := by decide +kernel
theorem dX9_setRoom_22 : decode cX9_setRoom 22 = .ok (.istore_n 2, 1) := by decide +kernel
theorem dX9_setRoom_23 : decode cX9_setRoom 23 = .ok (.aload_n 0, 1) := by decide +kernel
theorem dX9_setRoom_24 : decode cX9_setRoom 24 = .ok (.getfield 19, 3) := by decide +kernel
theorem dX9_setRoom_27 : decode cX9_setRoom 27 = .ok (.iload_n 1, 1) := by decide +kernel
theorem dX9_setRoom_28 : decode cX9_setRoom 28 = .ok (.invokevirtual 166, 3) := by decide +kernel
theorem dX9_setRoom_31 : decode cX9_setRoom 31 = .ok (.iload_n 2, 1) := by decide +kernel
theorem dX9_setRoom_32 : decode cX9_setRoom 32 = .ok (.ireturn, 1) := by decide +kernel
theorem dX9_sum_0 : decode cX9_sum 0 = .ok (.aload_n 0, 1) := by decide +kernel
theorem dX9_sum_1 : decode cX9_sum 1 = .ok (.getfield 12, 3) := by decide +kernel
theorem dX9_sum_4 : decode cX9_sum 4 = .ok (.iload_n 1, 1) := by decide +kernel
theorem dX9_sum_5 : decode cX9_sum 5 = .ok (.invokevirtual 64, 3) := by decide +kernel
theorem dX9_sum_8 : decode cX9_sum 8 = .ok (.ifCond .eq 17, 3) := by decide +kernel
theorem dX9_sum_11 : decode cX9_sum 11 = .ok (.iload_n 2, 1) := by decide +kernel
theorem dX9_sum_12 : decode cX9_sum 12 = .ok (.invokestatic 112, 3) := by decide +kernel
theorem dX9_sum_15 : decode cX9_sum 15 = .ok (.ifCond .eq 10, 3) := by decide +kernel
theorem dX9_sum_18 : decode cX9_sum 18 = .ok (.iload_n 3, 1) := by decide +kernel
theorem dX9_sum_19 : decode cX9_sum 19 = .ok (.invokestatic 133, 3) := by decide +kernel
theorem dX9_sum_22 : decode cX9_sum 22 = .ok (.ifCond .ne 7, 3) := by decide +kernel
theorem dX9_sum_25 : decode cX9_sum 25 = .ok (.sipush (-1001), 3) := by decide +kernel
theorem dX9_sum_28 : decode cX9_sum 28 = .ok (.ireturn, 1) := by decide +kernel
theorem dX9_sum_29 : decode cX9_sum 29 = .ok (.iload 4, 2) := by decide +kernel
theorem dX9_sum_31 : decode cX9_sum 31 = .ok (.iconst 0, 1) := by decide +kernel
theorem dX9_sum_32 : decode cX9_sum 32 = .ok (.iconst 3, 1) := by decide +kernel
theorem dX9_sum_33 : decode cX9_sum 33 = .ok (.invokestatic 52, 3) := by decide +kernel
theorem dX9_sum_36 : decode cX9_sum 36 = .ok (.ifCond .ne 7, 3) := by decide +kernel
theorem dX9_sum_39 : decode cX9_sum 39 = .ok (.sipush (-1002), 3) := by decide +kernel
theorem dX9_sum_42 : decode cX9_sum 42 = .ok (.ireturn, 1) := by decide +kernel
theorem dX9_sum_43 : decode cX9_sum 43 = .ok (.aload_n 0, 1) := by decide +kernel
theorem dX9_sum_44 : decode cX9_sum 44 = .ok (.iload_n 1, 1) := by decide +kernel
theorem dX9_sum_45 : decode cX9_sum 45 = .ok (.iload_n 2, 1) := by decide +kernel
theorem dX9_sum_46 : decode cX9_sum 46 = .ok (.iconst 0, 1) := by decide +kernel
theorem dX9_sum_47 : decode cX9_sum 47 = .ok (.invokevirtual 136, 3) := by decide +kernel
theorem dX9_sum_50 : decode cX9_sum 50 = .ok (.astore 5, 2) := by decide +kernel
theorem dX9_sum_52 : decode cX9_sum 52 = .ok (.iload 4, 2) := by decide +kernel
theorem dX9_sum_54 : decode cX9_sum 54 = .ok (.tableswitch 47 0 2 #[26, 33, 40], 26) := by decide +kernel
theorem dX9_sum_80 : decode cX9_sum 80 = .ok (.aload 5, 2) := by decide +kernel
theorem dX9_sum_82 : decode cX9_sum 82 = .ok (.iload_n 3, 1) := by decide +kernel
theorem dX9_sum_83 : decode cX9_sum 83 = .ok (.invokestatic 146, 3) := by decide +kernel
theorem dX9_sum_86 : decode cX9_sum 86 = .ok (.ireturn, 1) := by decide +kernel
theorem dX9_sum_87 : decode cX9_sum 87 = .ok (.aload 5, 2) := by decide +kernel
theorem dX9_sum_89 : decode cX9_sum 89 = .ok (.iload_n 3, 1) := by decide +kernel
theorem dX9_sum_90 : decode cX9_sum 90 = .ok (.invokestatic 150, 3) := by decide +kernel
theorem dX9_sum_93 : decode cX9_sum 93 = .ok (.ireturn, 1) := by decide +kernel
theorem dX9_sum_94 : decode cX9_sum 94 = .ok (.aload 5, 2) := by decide +kernel
theorem dX9_sum_96 : decode cX9_sum 96 = .ok (.iload_n 3, 1) := by decide +kernel
theorem dX9_sum_97 : decode cX9_sum 97 = .ok (.invokestatic 153, 3) := by decide +kernel
theorem dX9_sum_100 : decode cX9_sum 100 = .ok (.ireturn, 1) := by decide +kernel
theorem dX9_sum_101 : decode cX9_sum 101 = .ok (.aload 5, 2) := by decide +kernel
theorem dX9_sum_103 : decode cX9_sum 103 = .ok (.iload_n 3, 1) := by decide +kernel
theorem dX9_sum_104 : decode cX9_sum 104 = .ok (.invokestatic 156, 3) := by decide +kernel
theorem dX9_sum_107 : decode cX9_sum 107 = .ok (.ireturn, 1) := by decide +kernel
theorem dX9_value_0 : decode cX9_value 0 = .ok (.iload_n 3, 1) := by decide +kernel
theorem dX9_value_1 : decode cX9_value 1 = .ok (.iconst 0, 1) := by decide +kernel
theorem dX9_value_2 : decode cX9_value 2 = .ok (.bipush 7, 2) := by decide +kernel
theorem dX9_value_4 : decode cX9_value 4 = .ok (.invokestatic 52, 3) := by decide +kernel
theorem dX9_value_7 : decode cX9_value 7 = .ok (.ifCond .eq 25, 3) := by decide +kernel
theorem dX9_value_10 : decode cX9_value 10 = .ok (.iload 4, 2) := by decide +kernel
theorem dX9_value_12 : decode cX9_value 12 = .ok (.iconst 0, 1) := by decide +kernel
theorem dX9_value_13 : decode cX9_value 13 = .ok (.iconst 3, 1) := by decide +kernel
theorem dX9_value_14 : decode cX9_value 14 = .ok (.invokestatic 52, 3) := by decide +kernel
theorem dX9_value_17 : decode cX9_value 17 = .ok (.ifCond .eq 15, 3) := by decide +kernel
theorem dX9_value_20 : decode cX9_value 20 = .ok (.iload 5, 2) := by decide +kernel
theorem dX9_value_22 : decode cX9_value 22 = .ok (.invokestatic 133, 3) := by decide +kernel
theorem dX9_value_25 : decode cX9_value 25 = .ok (.ifCond .eq 7, 3) := by decide +kernel
theorem dX9_value_28 : decode cX9_value 28 = .ok (.iconst 1, 1) := by decide +kernel
theorem dX9_value_29 : decode cX9_value 29 = .ok (.goto 4, 3) := by decide +kernel
theorem dX9_value_32 : decode cX9_value 32 = .ok (.iconst 0, 1) := by decide +kernel
theorem dX9_value_33 : decode cX9_value 33 = .ok (.istore 6, 2) := by decide +kernel
theorem dX9_value_35 : decode cX9_value 35 = .ok (.aload_n 0, 1) := by decide +kernel
theorem dX9_value_36 : decode cX9_value 36 = .ok (.getfield 12, 3) := by decide +kernel
theorem dX9_value_39 : decode cX9_value 39 = .ok (.iload_n 1, 1) := by decide +kernel
theorem dX9_value_40 : decode cX9_value 40 = .ok (.invokevirtual 64, 3) := by decide +kernel
theorem dX9_value_43 : decode cX9_value 43 = .ok (.ifCond .eq 15, 3) := by decide +kernel
theorem dX9_value_46 : decode cX9_value 46 = .ok (.iload_n 2, 1) := by decide +kernel
theorem dX9_value_47 : decode cX9_value 47 = .ok (.invokestatic 112, 3) := by decide +kernel
theorem dX9_value_50 : decode cX9_value 50 = .ok (.ifCond .eq 8, 3) := by decide +kernel
theorem dX9_value_53 : decode cX9_value 53 = .ok (.iload 6, 2) := by decide +kernel
theorem dX9_value_55 : decode cX9_value 55 = .ok (.ifCond .ne 7, 3) := by decide +kernel
theorem dX9_value_58 : decode cX9_value 58 = .ok (.sipush (-1001), 3) := by decide +kernel
theorem dX9_value_61 : decode cX9_value 61 = .ok (.ireturn, 1) := by decide +kernel
theorem dX9_value_62 : decode cX9_value 62 = .ok (.aload_n 0, 1) := by decide +kernel
theorem dX9_value_63 : decode cX9_value 63 = .ok (.iload_n 1, 1) := by decide +kernel
theorem dX9_value_64 : decode cX9_value 64 = .ok (.iload_n 2, 1) := by decide +kernel
theorem dX9_value_65 : decode cX9_value 65 = .ok (.iconst 0, 1) := by decide +kernel
theorem dX9_value_66 : decode cX9_value 66 = .ok (.invokevirtual 136, 3) := by decide +kernel
theorem dX9_value_69 : decode cX9_value 69 = .ok (.iload 5, 2) := by decide +kernel
theorem dX9_value_71 : decode cX9_value 71 = .ok (.bipush 32, 2) := by decide +kernel
theorem dX9_value_73 : decode cX9_value 73 = .ok (.imul, 1) := by decide +kernel
theorem dX9_value_74 : decode cX9_value 74 = .ok (.iload 4, 2) := by decide +kernel
theorem dX9_value_76 : decode cX9_value 76 = .ok (.bipush 8, 2) := by decide +kernel
theorem dX9_value_78 : decode cX9_value 78 = .ok (.imul, 1) := by decide +kernel
theorem dX9_value_79 : decode cX9_value 79 = .ok (.iadd, 1) := by decide +kernel
theorem dX9_value_80 : decode cX9_value 80 = .ok (.iload_n 3, 1) := by decide +kernel
theorem dX9_value_81 : decode cX9_value 81 = .ok (.iadd, 1) := by decide +kernel
theorem dX9_value_82 : decode cX9_value 82 = .ok (.iaload, 1) := by decide +kernel
theorem dX9_value_83 : decode cX9_value 83 = .ok (.ireturn, 1) := by decide +kernel
end
section
theorem dX10_addNode_0 : decode cX10_addNode 0 = .ok (.iload_n 1, 1) := by decide +kernel
theorem dX10_addNode_1 : decode cX10_addNode 1 = .ok (.iconst 0, 1) := by decide +kernel
theorem dX10_addNode_2 : decode cX10_addNode 2 = .ok (.bipush 6, 2) := by decide +kernel
theorem dX10_addNode_4 : decode cX10_addNode 4 = .ok (.invokestatic 69, 3) := by decide +kernel
theorem dX10_addNode_7 : decode cX10_addNode 7 = .ok (.ifCond .ne 7, 3) := by decide +kernel
theorem dX10_addNode_10 : decode cX10_addNode 10 = .ok (.sipush (-1002), 3) := by decide +kernel
theorem dX10_addNode_13 : decode cX10_addNode 13 = .ok (.ireturn, 1) := by decide +kernel
theorem dX10_addNode_14 : decode cX10_addNode 14 = .ok (.aload_n 0, 1) := by decide +kernel
theorem dX10_addNode_15 : decode cX10_addNode 15 = .ok (.getfield 7, 3) := by decide +kernel
theorem dX10_addNode_18 : decode cX10_addNode 18 = .ok (.iconst 0, 1) := by decide +kernel
theorem dX10_addNode_19 : decode cX10_addNode 19 = .ok (.iaload, 1) := by decide +kernel
theorem dX10_addNode_20 : decode cX10_addNode 20 = .ok (.bipush 12, 2) := by decide +kernel
theorem dX10_addNode_22 : decode cX10_addNode 22 = .ok (.if_icmp .ne 9, 3) := by decide +kernel
theorem dX10_addNode_25 : decode cX10_addNode 25 = .ok (.sipush (-1004), 3) := by decide +kernel
theorem dX10_addNode_28 : decode cX10_addNode 28 = .ok (.goto 8, 3) := by decide +kernel
theorem dX10_addNode_31 : decode cX10_addNode 31 = .ok (.aload_n 0, 1) := by decide +kernel
theorem dX10_addNode_32 : decode cX10_addNode 32 = .ok (.iload_n 1, 1) := by decide +kernel
theorem dX10_addNode_33 : decode cX10_addNode 33 = .ok (.invokevirtual 91, 3) := by decide +kernel
theorem dX10_addNode_36 : decode cX10_addNode 36 = .ok (.ireturn, 1) := by decide +kernel
theorem dX10_adds_0 : decode cX10_adds 0 = .ok (.aload_n 0, 1) := by decide +kernel
theorem dX10_adds_1 : decode cX10_adds 1 = .ok (.getfield 7, 3) := by decide +kernel
theorem dX10_adds_4 : decode cX10_adds 4 = .ok (.iconst 0, 1) := by decide +kernel
theorem dX10_adds_5 : decode cX10_adds 5 = .ok (.iaload, 1) := by decide +kernel
theorem dX10_adds_6 : decode cX10_adds 6 = .ok (.istore_n 2, 1) := by decide +kernel
theorem dX10_adds_7 : decode cX10_adds 7 = .ok (.aload_n 0, 1) := by decide +kernel
theorem dX10_adds_8 : decode cX10_adds 8 = .ok (.getfield 7, 3) := by decide +kernel
theorem dX10_adds_11 : decode cX10_adds 11 = .ok (.iload_n 2, 1) := by decide +kernel
theorem dX10_adds_12 : decode cX10_adds 12 = .ok (.iconst 0, 1) := by decide +kernel
theorem dX10_adds_13 : decode cX10_adds 13 = .ok (.invokestatic 73, 3) := by decide +kernel
theorem dX10_adds_16 : decode cX10_adds 16 = .ok (.iload_n 1, 1) := by decide +kernel
theorem dX10_adds_17 : decode cX10_adds 17 = .ok (.iastore, 1) := by decide +kernel
theorem dX10_adds_18 : decode cX10_adds 18 = .ok (.aload_n 0, 1) := by decide +kernel
theorem dX10_adds_19 : decode cX10_adds 19 = .ok (.getfield 7, 3) := by decide +kernel
theorem dX10_adds_22 : decode cX10_adds 22 = .ok (.iload_n 2, 1) := by decide +kernel
theorem dX10_adds_23 : decode cX10_adds 23 = .ok (.iconst 1, 1) := by decide +kernel
theorem dX10_adds_24 : decode cX10_adds 24 = .ok (.invokestatic 73, 3) := by decide +kernel
theorem dX10_adds_27 : decode cX10_adds 27 = .ok (.iconst 0, 1) := by decide +kernel
theorem dX10_adds_28 : decode cX10_adds 28 = .ok (.iastore, 1) := by decide +kernel
theorem dX10_adds_29 : decode cX10_adds 29 = .ok (.aload_n 0, 1) := by decide +kernel
theorem dX10_adds_30 : decode cX10_adds 30 = .ok (.getfield 7, 3) := by decide +kernel
theorem dX10_adds_33 : decode cX10_adds 33 = .ok (.iload_n 2, 1) := by decide +kernel
theorem dX10_adds_34 : decode cX10_adds 34 = .ok (.iconst 2, 1) := by decide +kernel
theorem dX10_adds_35 : decode cX10_adds 35 = .ok (.invokestatic 73, 3) := by decide +kernel
theorem dX10_adds_38 : decode cX10_adds 38 = .ok (.bipush 99, 2) := by decide +kernel
theorem dX10_adds_40 : decode cX10_adds 40 = .ok (.iastore, 1) := by decide +kernel
theorem dX10_adds_41 : decode cX10_adds 41 = .ok (.iconst 0, 1) := by decide +kernel
theorem dX10_adds_42 : decode cX10_adds 42 = .ok (.istore_n 3, 1) := by decide +kernel
theorem dX10_adds_43 : decode cX10_adds 43 = .ok (.iload_n 3, 1) := by decide +kernel
theorem dX10_adds_44 : decode cX10_adds 44 = .ok (.iconst 3, 1) := by decide +kernel
theorem dX10_adds_45 : decode cX10_adds 45 = .ok (.if_icmp .ge 24, 3) := by decide +kernel
theorem dX10_adds_48 : decode cX10_adds 48 = .ok (.aload_n 0, 1) := by decide +kernel
theorem dX10_adds_49 : decode cX10_adds 49 = .ok (.getfield 7, 3) := by decide +kernel
theorem dX10_adds_52 : decode cX10_adds 52 = .ok (.iload_n 2, 1) := by decide +kernel
theorem dX10_adds_53 : decode cX10_adds 53 = .ok (.iconst 3, 1) := by decide +kernel
theorem dX10_adds_54 : decode cX10_adds 54 = .ok (.iload_n 3, 1) := by decide +kernel
theorem dX10_adds_55 : decode cX10_adds 55 = .ok (.iadd, 1) := by decide +kernel
theorem dX10_adds_56 : decode cX10_adds 56 = .ok (.invokestatic 73, 3) := by decide +kernel
theorem dX10_adds_59 : decode cX10_adds 59 = .ok (.sipush (-1005), 3) := by decide +kernel
theorem dX10_adds_62 : decode cX10_adds 62 = .ok (.iastore, 1) := by decide +kernel
theorem dX10_adds_63 : decode cX10_adds 63 = .ok (.iinc 3 1, 3) := by decide +kernel
theorem dX10_adds_66 : decode cX10_adds 66 = .ok (.goto (-23), 3) := by decide +kernel
theorem dX10_adds_69 : decode cX10_adds 69 = .ok (.iconst 0, 1) := by decide +kernel
theorem dX10_adds_70 : decode cX10_adds 70 = .ok (.istore_n 3, 1) := by decide +kernel
theorem dX10_adds_71 : decode cX10_adds 71 = .ok (.iload_n 3, 1) := by decide +kernel
theorem dX10_adds_72 : decode cX10_adds 72 = .ok (.iconst 4, 1) := by decide +kernel
theorem dX10_adds_73 : decode cX10_adds 73 = .ok (.if_icmp .ge 27, 3) := by decide +kernel
theorem dX10_adds_76 : decode cX10_adds 76 = .ok (.aload_n 0, 1) := by decide +kernel
theorem dX10_adds_77 : decode cX10_adds 77 = .ok (.getfield 7, 3) := by decide +kernel
theorem dX10_adds_80 : decode cX10_adds 80 = .ok (.iload_n 2, 1) := by decide +kernel
theorem dX10_adds_81 : decode cX10_adds 81 = .ok (.bipush 6, 2) := by decide +kernel
theorem dX10_adds_83 : decode cX10_adds 83 = .ok (.iload_n 3, 1) := by decide +kernel
theorem dX10_adds_84 : decode cX10_adds 84 = .ok (.iadd, 1) := by decide +kernel
theorem dX10_adds_85 : decode cX10_adds 85 = .ok (.invokestatic 73, 3) := by decide +kernel
theorem dX10_adds_88 : decode cX10_adds 88 = .ok (.iload_n 1, 1) := by decide +kernel
theorem dX10_adds_89 : decode cX10_adds 89 = .ok (.iload_n 3, 1) := by decide +kernel
theorem dX10_adds_90 : decode cX10_adds 90 = .ok (.invokestatic 88, 3) := by decide +kernel
theorem dX10_adds_93 : decode cX10_adds 93 = .ok (.iastore, 1) := by decide +kernel
theorem dX10_adds_94 : decode cX10_adds 94 = .ok (.iinc 3 1, 3) := by decide +kernel
theorem dX10_adds_97 : decode cX10_adds 97 = .ok (.goto (-26), 3) := by decide +kernel
theorem dX10_adds_100 : decode cX10_adds 100 = .ok (.aload_n 0, 1) := by decide +kernel
theorem dX10_adds_101 : decode cX10_adds 101 = .ok (.getfield 7, 3) := by decide +kernel
theorem dX10_adds_104 : decode cX10_adds 104 = .ok (.iconst 0, 1) := by decide +kernel
theorem dX10_adds_105 : decode cX10_adds 105 = .ok (.dup2, 1) := by decide +kernel
theorem dX10_adds_106 : decode cX10_adds 106 = .ok (.iaload, 1) := by decide +kernel
theorem dX10_adds_107 : decode cX10_adds 107 = .ok (.iconst 1, 1) := by decide +kernel
theorem dX10_adds_108 : decode cX10_adds 108 = .ok (.iadd, 1) := by decide +kernel
theorem dX10_adds_109 : decode cX10_adds 109 = .ok (.iastore, 1) := by decide +kernel
theorem dX10_adds_110 : decode cX10_adds 110 = .ok (.iload_n 2, 1) := by decide +kernel
theorem dX10_adds_111 : decode cX10_adds 111 = .ok (.ireturn, 1) := by decide +kernel
theorem dX10_append_0 : decode cX10_append 0 = .ok (.iload_n 1, 1) := by decide +kernel
theorem dX10_append_1 : decode cX10_append 1 = .ok (.iconst 0, 1) := by decide +kernel
theorem dX10_append_2 : decode cX10_append 2 = .ok (.bipush 127, 2) := by decide +kernel
theorem dX10_append_4 : decode cX10_append 4 = .ok (.invokestatic 69, 3) := by decide +kernel
theorem dX10_append_7 : decode cX10_append 7 = .ok (.ifCond .ne 7, 3) := by decide +kernel
theorem dX10_append_10 : decode cX10_append 10 = .ok (.sipush (-1002), 3) := by decide +kernel
theorem dX10_append_13 : decode cX10_append 13 = .ok (.ireturn, 1) := by decide +kernel
theorem dX10_append_14 : decode cX10_append 14 = .ok (.aload_n 0, 1) := by decide +kernel
theorem dX10_append_15 : decode cX10_append 15 = .ok (.getfield 190, 3) := by decide +kernel
theorem dX10_append_18 : decode cX10_append 18 = .ok (.bipush 80, 2) := by decide +kernel
theorem dX10_append_20 : decode cX10_append 20 = .ok (.if_icmp .ne 7, 3) := by decide +kernel
theorem dX10_append_23 : decode cX10_append 23 = .ok (.sipush (-1004), 3) := by decide +kernel
theorem dX10_append_26 : decode cX10_append 26 = .ok (.ireturn, 1) := by decide +kernel
theorem dX10_append_27 : decode cX10_append 27 = .ok (.aload_n 0, 1) := by decide +kernel
theorem dX10_append_28 : decode cX10_append 28 = .ok (.getfield 39, 3) := by decide +kernel
theorem dX10_append_31 : decode cX10_append 31 = .ok (.aload_n 0, 1) := by decide +kernel
theorem dX10_append_32 : decode cX10_append 32 = .ok (.getfield 190, 3) := by decide +kernel
theorem dX10_append_35 : decode cX10_append 35 = .ok (.iload_n 1, 1) := by decide +kernel
theorem dX10_append_36 : decode cX10_append 36 = .ok (.iastore, 1) := by decide +kernel
theorem dX10_append_37 : decode cX10_append 37 = .ok (.aload_n 0, 1) := by decide +kernel
theorem dX10_append_38 : decode cX10_append 38 = .ok (.dup, 1) := by decide +kernel
theorem dX10_append_39 : decode cX10_append 39 = .ok (.getfield 190, 3) := by decide +kernel
theorem dX10_append_42 : decode cX10_append 42 = .ok (.iconst 1, 1) := by decide +kernel
theorem dX10_append_43 : decode cX10_append 43 = .ok (.iadd, 1) := by decide +kernel
theorem dX10_append_44 : decode cX10_append 44 = .ok (.putfield 190, 3) := by decide +kernel
theorem dX10_append_47 : decode cX10_append 47 = .ok (.aload_n 0, 1) := by decide +kernel
theorem dX10_append_48 : decode cX10_append 48 = .ok (.getfield 190, 3) := by decide +kernel
theorem dX10_append_51 : decode cX10_append 51 = .ok (.ireturn, 1) := by decide +kernel
theorem dX10_asks_0 : decode cX10_asks 0 = .ok (.aload_n 0, 1) := by decide +kernel
theorem dX10_asks_1 : decode cX10_asks 1 = .ok (.iload_n 1, 1) := by decide +kernel
theorem dX10_asks_2 : decode cX10_asks 2 = .ok (.iload_n 2, 1) := by decide +kernel
theorem dX10_asks_3 : decode cX10_asks 3 = .ok (.invokevirtual 140, 3) := by decide +kernel
theorem dX10_asks_6 : decode cX10_asks 6 = .ok (.istore_n 3, 1) := by decide +kernel
theorem dX10_asks_7 : decode cX10_asks 7 = .ok (.iload_n 3, 1) := by decide +kernel
theorem dX10_asks_8 : decode cX10_asks 8 = .ok (.ifCond .lt 21, 3) := by decide +kernel
theorem dX10_asks_11 : decode cX10_asks 11 = .ok (.aload_n 0, 1) := by decide +kernel
theorem dX10_asks_12 : decode cX10_asks 12 = .ok (.getfield 36, 3) := by decide +kernel
theorem dX10_asks_15 : decode cX10_asks 15 = .ok (.iconst 1, 1) := by decide +kernel
theorem dX10_asks_16 : decode cX10_asks 16 = .ok (.dup2, 1) := by decide +kernel
theorem dX10_asks_17 : decode cX10_asks 17 = .ok (.iaload, 1) := by decide +kernel
theorem dX10_asks_18 : decode cX10_asks 18 = .ok (.iconst 1, 1) := by decide +kernel
theorem dX10_asks_19 : decode cX10_asks 19 = .ok (.iadd, 1) := by decide +kernel
theorem dX10_asks_20 : decode cX10_asks 20 = .ok (.iastore, 1) := by decide +kernel
theorem dX10_asks_21 : decode cX10_asks 21 = .ok (.aload_n 0, 1) := by decide +kernel
theorem dX10_asks_22 : decode cX10_asks 22 = .ok (.iload_n 3, 1) := by decide +kernel
theorem dX10_asks_23 : decode cX10_asks 23 = .ok (.invokevirtual 143, 3) := by decide +kernel
theorem dX10_asks_26 : decode cX10_asks 26 = .ok (.goto 43, 3) := by decide +kernel
theorem dX10_asks_29 : decode cX10_asks 29 = .ok (.aload_n 0, 1) := by decide +kernel
theorem dX10_asks_30 : decode cX10_asks 30 = .ok (.getfield 36, 3) := by decide +kernel
theorem dX10_asks_33 : decode cX10_asks 33 = .ok (.iconst 2, 1) := by decide +kernel
theorem dX10_asks_34 : decode cX10_asks 34 = .ok (.dup2, 1) := by decide +kernel
theorem dX10_asks_35 : decode cX10_asks 35 = .ok (.iaload, 1) := by decide +kernel
theorem dX10_asks_36 : decode cX10_asks 36 = .ok (.iconst 1, 1) := by decide +kernel
theorem dX10_asks_37 : decode cX10_asks 37 = .ok (.iadd, 1) := by decide +kernel
theorem dX10_asks_38 : decode cX10_asks 38 = .ok (.iastore, 1) := by decide +kernel
theorem dX10_asks_39 : decode cX10_asks 39 = .ok (.aload_n 0, 1) := by decide +kernel
theorem dX10_asks_40 : decode cX10_asks 40 = .ok (.getfield 51, 3) := by decide +kernel
theorem dX10_asks_43 : decode cX10_asks 43 = .ok (.aload_n 0, 1) := by decide +kernel
theorem dX10_asks_44 : decode cX10_asks 44 = .ok (.getfield 145, 3) := by decide +kernel
theorem dX10_asks_47 : decode cX10_asks 47 = .ok (.iload_n 1, 1) := by decide +kernel
theorem dX10_asks_48 : decode cX10_asks 48 = .ok (.iastore, 1) := by decide +kernel
theorem dX10_asks_49 : decode cX10_asks 49 = .ok (.aload_n 0, 1) := by decide +kernel
theorem dX10_asks_50 : decode cX10_asks 50 = .ok (.getfield 54, 3) := by decide +kernel
theorem dX10_asks_53 : decode cX10_asks 53 = .ok (.aload_n 0, 1) := by decide +kernel
theorem dX10_asks_54 : decode cX10_asks 54 = .ok (.getfield 145, 3) := by decide +kernel
theorem dX10_asks_57 : decode cX10_asks 57 = .ok (.iconst 0, 1) := by decide +kernel
theorem dX10_asks_58 : decode cX10_asks 58 = .ok (.iastore, 1) := by decide +kernel
theorem dX10_asks_59 : decode cX10_asks 59 = .ok (.aload_n 0, 1) := by decide +kernel
theorem dX10_asks_60 : decode cX10_asks 60 = .ok (.dup, 1) := by decide +kernel
theorem dX10_asks_61 : decode cX10_asks 61 = .ok (.getfield 145, 3) := by decide +kernel
theorem dX10_asks_64 : decode cX10_asks 64 = .ok (.iconst 1, 1) := by decide +kernel
theorem dX10_asks_65 : decode cX10_asks 65 = .ok (.iadd, 1) := by decide +kernel
theorem dX10_asks_66 : decode cX10_asks 66 = .ok (.putfield 145, 3) := by decide +kernel
theorem dX10_asks_69 : decode cX10_asks 69 = .ok (.return_, 1) := by decide +kernel
theorem dX10_at_0 : decode cX10_at 0 = .ok (.iconst 1, 1) := by decide +kernel
theorem dX10_at_1 : decode cX10_at 1 = .ok (.bipush 10, 2) := by decide +kernel
theorem dX10_at_3 : decode cX10_at 3 = .ok (.iload_n 0, 1) := by decide +kernel
theorem dX10_at_4 : decode cX10_at 4 = .ok (.imul, 1) := by decide +kernel
theorem dX10_at_5 : decode cX10_at 5 = .ok (.iadd, 1) := by decide +kernel
theorem dX10_at_6 : decode cX10_at 6 = .ok (.iload_n 1, 1) := by decide +kernel
theorem dX10_at_7 : decode cX10_at 7 = .ok (.iadd, 1) := by decide +kernel
theorem dX10_at_8 : decode cX10_at 8 = .ok (.ireturn, 1) := by decide +kernel
theorem dX10_begins_0 : decode cX10_begins 0 = .ok (.aload_n 0, 1) := by decide +kernel
theorem dX10_begins_1 : decode cX10_begins 1 = .ok (.invokevirtual 220, 3) := by decide +kernel
theorem dX10_begins_4 : decode cX10_begins 4 = .ok (.istore_n 1, 1) := by decide +kernel
theorem dX10_begins_5 : decode cX10_begins 5 = .ok (.iload_n 1, 1) := by decide +kernel
theorem dX10_begins_6 : decode cX10_begins 6 = .ok (.ifCond .lt 12, 3) := by decide +kernel
theorem dX10_begins_9 : decode cX10_begins 9 = .ok (.aload_n 0, 1) := by decide +kernel
theorem dX10_begins_10 : decode cX10_begins 10 = .ok (.getfield 223, 3) := by decide +kernel
theorem dX10_begins_13 : decode cX10_begins 13 = .ok (.bipush 6, 2) := by decide +kernel
theorem dX10_begins_15 : decode cX10_begins 15 = .ok (.if_icmp .ne 5, 3) := by decide +kernel
theorem dX10_begins_18 : decode cX10_begins 18 = .ok (.iconst 0, 1) := by decide +kernel
theorem dX10_begins_19 : decode cX10_begins 19 = .ok (.ireturn, 1) := by decide +kernel
theorem dX10_begins_20 : decode cX10_begins 20 = .ok (.aload_n 0, 1) := by decide +kernel
theorem dX10_begins_21 : decode cX10_begins 21 = .ok (.dup, 1) := by decide +kernel
theorem dX10_begins_22 : decode cX10_begins 22 = .ok (.getfield 193, 3) := by decide +kernel
theorem dX10_begins_25 : decode cX10_begins 25 = .ok (.iconst 1, 1) := by decide +kernel
theorem dX10_begins_26 : decode cX10_begins 26 = .ok (.iadd, 1) := by decide +kernel
theorem dX10_begins_27 : decode cX10_begins 27 = .ok (.putfield 193, 3) := by decide +kernel
theorem dX10_begins_30 : decode cX10_begins 30 = .ok (.aload_n 0, 1) := by decide +kernel
theorem dX10_begins_31 : decode cX10_begins 31 = .ok (.bipush 40, 2) := by decide +kernel
theorem dX10_begins_33 : decode cX10_begins 33 = .ok (.invokevirtual 214, 3) := by decide +kernel
theorem dX10_begins_36 : decode cX10_begins 36 = .ok (.ifCond .ne 5, 3) := by decide +kernel
theorem dX10_begins_39 : decode cX10_begins 39 = .ok (.iconst 0, 1) := by decide +kernel
theorem dX10_begins_40 : decode cX10_begins 40 = .ok (.ireturn, 1) := by decide +kernel
theorem dX10_begins_41 : decode cX10_begins 41 = .ok (.aload_n 0, 1) := by decide +kernel
theorem dX10_begins_42 : decode cX10_begins 42 = .ok (.getfield 57, 3) := by decide +kernel
theorem dX10_begins_45 : decode cX10_begins 45 = .ok (.aload_n 0, 1) := by decide +kernel
theorem dX10_begins_46 : decode cX10_begins 46 = .ok (.getfield 223, 3) := by decide +kernel
theorem dX10_begins_49 : decode cX10_begins 49 = .ok (.iload_n 1, 1) := by decide +kernel
theorem dX10_begins_50 : decode cX10_begins 50 = .ok (.iastore, 1) := by decide +kernel
theorem dX10_begins_51 : decode cX10_begins 51 = .ok (.aload_n 0, 1) := by decide +kernel
theorem dX10_begins_52 : decode cX10_begins 52 = .ok (.getfield 60, 3) := by decide +kernel
theorem dX10_begins_55 : decode cX10_begins 55 = .ok (.aload_n 0, 1) := by decide +kernel
theorem dX10_begins_56 : decode cX10_begins 56 = .ok (.getfield 223, 3) := by decide +kernel
theorem dX10_begins_59 : decode cX10_begins 59 = .ok (.iconst 0, 1) := by decide +kernel
theorem dX10_begins_60 : decode cX10_begins 60 = .ok (.iastore, 1) := by decide +kernel
theorem dX10_begins_61 : decode cX10_begins 61 = .ok (.aload_n 0, 1) := by decide +kernel
theorem dX10_begins_62 : decode cX10_begins 62 = .ok (.dup, 1) := by decide +kernel
theorem dX10_begins_63 : decode cX10_begins 63 = .ok (.getfield 223, 3) := by decide +kernel
theorem dX10_begins_66 : decode cX10_begins 66 = .ok (.iconst 1, 1) := by decide +kernel
theorem dX10_begins_67 : decode cX10_begins 67 = .ok (.iadd, 1) := by decide +kernel
theorem dX10_begins_68 : decode cX10_begins 68 = .ok (.putfield 223, 3) := by decide +kernel
theorem dX10_begins_71 : decode cX10_begins 71 = .ok (.iconst 1, 1) := by decide +kernel
theorem dX10_begins_72 : decode cX10_begins 72 = .ok (.ireturn, 1) := by decide +kernel
theorem dX10_blurred_0 : decode cX10_blurred 0 = .ok (.iconst 0, 1) := by decide +kernel
theorem dX10_blurred_1 : decode cX10_blurred 1 = .ok (.istore 5, 2) := by decide +kernel
theorem dX10_blurred_3 : decode cX10_blurred 3 = .ok (.iconst 0, 1) := by decide +kernel
theorem dX10_blurred_4 : decode cX10_blurred 4 = .ok (.istore 6, 2) := by decide +kernel
theorem dX10_blurred_6 : decode cX10_blurred 6 = .ok (.iload_n 3, 1) := by decide +kernel
theorem dX10_blurred_7 : decode cX10_blurred 7 = .ok (.bipush 8, 2) := by decide +kernel
theorem dX10_blurred_9 : decode cX10_blurred 9 = .ok (.irem, 1) := by decide +kernel
theorem dX10_blurred_10 : decode cX10_blurred 10 = .ok (.iload 4, 2) := by decide +kernel
theorem dX10_blurred_12 : decode cX10_blurred 12 = .ok (.isub, 1) := by decide +kernel
theorem dX10_blurred_13 : decode cX10_blurred 13 = .ok (.istore 7, 2) := by decide +kernel
theorem dX10_blurred_15 : decode cX10_blurred 15 = .ok (.iload 7, 2) := by decide +kernel
theorem dX10_blurred_17 : decode cX10_blurred 17 = .ok (.iload_n 3, 1) := by decide +kernel
theorem dX10_blurred_18 : decode cX10_blurred 18 = .ok (.bipush 8, 2) := by decide +kernel
theorem dX10_blurred_20 : decode cX10_blurred 20 = .ok (.irem, 1) := by decide +kernel
theorem dX10_blurred_21 : decode cX10_blurred 21 = .ok (.iload 4, 2) := by decide +kernel
theorem dX10_blurred_23 : decode cX10_blurred 23 = .ok (.iadd, 1) := by decide +kernel
theorem dX10_blurred_24 : decode cX10_blurred 24 = .ok (.if_icmp .gt 44, 3) := by decide +kernel
theorem dX10_blurred_27 : decode cX10_blurred 27 = .ok (.iload 7, 2) := by decide +kernel
theorem dX10_blurred_29 : decode cX10_blurred 29 = .ok (.iconst 0, 1) := by decide +kernel
theorem dX10_blurred_30 : decode cX10_blurred 30 = .ok (.bipush 7, 2) := by decide +kernel
theorem dX10_blurred_32 : decode cX10_blurred 32 = .ok (.invokestatic 69, 3) := by decide +kernel
theorem dX10_blurred_35 : decode cX10_blurred 35 = .ok (.ifCond .eq 27, 3) := by decide +kernel
theorem dX10_blurred_38 : decode cX10_blurred 38 = .ok (.iload 5, 2) := by decide +kernel
theorem dX10_blurred_40 : decode cX10_blurred 40 = .ok (.aload_n 0, 1) := by decide +kernel
theorem dX10_blurred_41 : decode cX10_blurred 41 = .ok (.iload_n 1, 1) := by decide +kernel
theorem dX10_blurred_42 : decode cX10_blurred 42 = .ok (.iconst 0, 1) := by decide +kernel
theorem dX10_blurred_43 : decode cX10_blurred 43 = .ok (.iload_n 2, 1) := by decide +kernel
theorem dX10_blurred_44 : decode cX10_blurred 44 = .ok (.iload_n 3, 1) := by decide +kernel
theorem dX10_blurred_45 : decode cX10_blurred 45 = .ok (.iload_n 3, 1) := by decide +kernel
theorem dX10_blurred_46 : decode cX10_blurred 46 = .ok (.bipush 8, 2) := by decide +kernel
theorem dX10_blurred_48 : decode cX10_blurred 48 = .ok (.irem, 1) := by decide +kernel
theorem dX10_blurred_49 : decode cX10_blurred 49 = .ok (.isub, 1) := by decide +kernel
theorem dX10_blurred_50 : decode cX10_blurred 50 = .ok (.iload 7, 2) := by decide +kernel
theorem dX10_blurred_52 : decode cX10_blurred 52 = .ok (.iadd, 1) := by decide +kernel
theorem dX10_blurred_53 : decode cX10_blurred 53 = .ok (.invokevirtual 165, 3) := by decide +kernel
theorem dX10_blurred_56 : decode cX10_blurred 56 = .ok (.iadd, 1) := by decide +kernel
theorem dX10_blurred_57 : decode cX10_blurred 57 = .ok (.istore 5, 2) := by decide +kernel
theorem dX10_blurred_59 : decode cX10_blurred 59 = .ok (.iinc 6 1, 3) := by decide +kernel
theorem dX10_blurred_62 : decode cX10_blurred 62 = .ok (.iinc 7 1, 3) := by decide +kernel
theorem dX10_blurred_65 : decode cX10_blurred 65 = .ok (.goto (-50), 3) := by decide +kernel
theorem dX10_blurred_68 : decode cX10_blurred 68 = .ok (.iload 5, 2) := by decide +kernel
theorem dX10_blurred_70 : decode cX10_blurred 70 = .ok (.iload 6, 2) := by decide +kernel
theorem dX10_blurred_72 : decode cX10_blurred 72 = .ok (.idiv, 1) := by decide +kernel
theorem dX10_blurred_73 : decode cX10_blurred 73 = .ok (.ireturn, 1) := by decide +kernel
theorem dX10_build_0 : decode cX10_build 0 = .ok (.aload_n 0, 1) := by decide +kernel
theorem dX10_build_1 : decode cX10_build 1 = .ok (.invokevirtual 232, 3) := by decide +kernel
theorem dX10_build_4 : decode cX10_build 4 = .ok (.ifCond .ne 7, 3) := by decide +kernel
theorem dX10_build_7 : decode cX10_build 7 = .ok (.sipush (-1003), 3) := by decide +kernel
theorem dX10_build_10 : decode cX10_build 10 = .ok (.ireturn, 1) := by decide +kernel
theorem dX10_build_11 : decode cX10_build 11 = .ok (.aload_n 0, 1) := by decide +kernel
theorem dX10_build_12 : decode cX10_build 12 = .ok (.getfield 7, 3) := by decide +kernel
theorem dX10_build_15 : decode cX10_build 15 = .ok (.iconst 0, 1) := by decide +kernel
theorem dX10_build_16 : decode cX10_build 16 = .ok (.iaload, 1) := by decide +kernel
theorem dX10_build_17 : decode cX10_build 17 = .ok (.aload_n 0, 1) := by decide +kernel
theorem dX10_build_18 : decode cX10_build 18 = .ok (.getfield 206, 3) := by decide +kernel
theorem dX10_build_21 : decode cX10_build 21 = .ok (.iadd, 1) := by decide +kernel
theorem dX10_build_22 : decode cX10_build 22 = .ok (.bipush 12, 2) := by decide +kernel
theorem dX10_build_24 : decode cX10_build 24 = .ok (.if_icmp .le 7, 3) := by decide +kernel
theorem dX10_build_27 : decode cX10_build 27 = .ok (.sipush (-1004), 3) := by decide +kernel
theorem dX10_build_30 : decode cX10_build 30 = .ok (.ireturn, 1) := by decide +kernel
theorem dX10_build_31 : decode cX10_build 31 = .ok (.aload_n 0, 1) := by decide +kernel
theorem dX10_build_32 : decode cX10_build 32 = .ok (.getfield 7, 3) := by decide +kernel
theorem dX10_build_35 : decode cX10_build 35 = .ok (.iconst 0, 1) := by decide +kernel
theorem dX10_build_36 : decode cX10_build 36 = .ok (.iaload, 1) := by decide +kernel
theorem dX10_build_37 : decode cX10_build 37 = .ok (.istore_n 1, 1) := by decide +kernel
theorem dX10_build_38 : decode cX10_build 38 = .ok (.iconst 0, 1) := by decide +kernel
theorem dX10_build_39 : decode cX10_build 39 = .ok (.istore_n 2, 1) := by decide +kernel
theorem dX10_build_40 : decode cX10_build 40 = .ok (.iload_n 2, 1) := by decide +kernel
theorem dX10_build_41 : decode cX10_build 41 = .ok (.aload_n 0, 1) := by decide +kernel
theorem dX10_build_42 : decode cX10_build 42 = .ok (.getfield 206, 3) := by decide +kernel
theorem dX10_build_45 : decode cX10_build 45 = .ok (.if_icmp .ge 129, 3) := by decide +kernel
theorem dX10_build_48 : decode cX10_build 48 = .ok (.aload_n 0, 1) := by decide +kernel
theorem dX10_build_49 : decode cX10_build 49 = .ok (.aload_n 0, 1) := by decide +kernel
theorem dX10_build_50 : decode cX10_build 50 = .ok (.getfield 63, 3) := by decide +kernel
theorem dX10_build_53 : decode cX10_build 53 = .ok (.bipush 8, 2) := by decide +kernel
theorem dX10_build_55 : decode cX10_build 55 = .ok (.iload_n 2, 1) := by decide +kernel
theorem dX10_build_56 : decode cX10_build 56 = .ok (.imul, 1) := by decide +kernel
theorem dX10_build_57 : decode cX10_build 57 = .ok (.iaload, 1) := by decide +kernel
theorem dX10_build_58 : decode cX10_build 58 = .ok (.invokevirtual 91, 3) := by decide +kernel
theorem dX10_build_61 : decode cX10_build 61 = .ok (.istore_n 3, 1) := by decide +kernel
theorem dX10_build_62 : decode cX10_build 62 = .ok (.iconst 0, 1) := by decide +kernel
theorem dX10_build_63 : decode cX10_build 63 = .ok (.istore 4, 2) := by decide +kernel
theorem dX10_build_65 : decode cX10_build 65 = .ok (.iload 4, 2) := by decide +kernel
theorem dX10_build_67 : decode cX10_build 67 = .ok (.iconst 3, 1) := by decide +kernel
theorem dX10_build_68 : decode cX10_build 68 = .ok (.if_icmp .ge 57, 3) := by decide +kernel
theorem dX10_build_71 : decode cX10_build 71 = .ok (.aload_n 0, 1) := by decide +kernel
theorem dX10_build_72 : decode cX10_build 72 = .ok (.getfield 63, 3) := by decide +kernel
theorem dX10_build_75 : decode cX10_build 75 = .ok (.bipush 8, 2) := by decide +kernel
theorem dX10_build_77 : decode cX10_build 77 = .ok (.iload_n 2, 1) := by decide +kernel
theorem dX10_build_78 : decode cX10_build 78 = .ok (.imul, 1) := by decide +kernel
theorem dX10_build_79 : decode cX10_build 79 = .ok (.iconst 1, 1) := by decide +kernel
theorem dX10_build_80 : decode cX10_build 80 = .ok (.iadd, 1) := by decide +kernel
theorem dX10_build_81 : decode cX10_build 81 = .ok (.iload 4, 2) := by decide +kernel
theorem dX10_build_83 : decode cX10_build 83 = .ok (.iadd, 1) := by decide +kernel
theorem dX10_build_84 : decode cX10_build 84 = .ok (.iaload, 1) := by decide +kernel
theorem dX10_build_85 : decode cX10_build 85 = .ok (.istore 5, 2) := by decide +kernel
theorem dX10_build_87 : decode cX10_build 87 = .ok (.aload_n 0, 1) := by decide +kernel
theorem dX10_build_88 : decode cX10_build 88 = .ok (.getfield 7, 3) := by decide +kernel
theorem dX10_build_91 : decode cX10_build 91 = .ok (.iload_n 3, 1) := by decide +kernel
theorem dX10_build_92 : decode cX10_build 92 = .ok (.iconst 3, 1) := by decide +kernel
theorem dX10_build_93 : decode cX10_build 93 = .ok (.iload 4, 2) := by decide +kernel
theorem dX10_build_95 : decode cX10_build 95 = .ok (.iadd, 1) := by decide +kernel
theorem dX10_build_96 : decode cX10_build 96 = .ok (.invokestatic 73, 3) := by decide +kernel
theorem dX10_build_99 : decode cX10_build 99 = .ok (.iload 5, 2) := by decide +kernel
theorem dX10_build_101 : decode cX10_build 101 = .ok (.bipush 100, 2) := by decide +kernel
theorem dX10_build_103 : decode cX10_build 103 = .ok (.if_icmp .lt 13, 3) := by decide +kernel
theorem dX10_build_106 : decode cX10_build 106 = .ok (.iload_n 1, 1) := by decide +kernel
theorem dX10_build_107 : decode cX10_build 107 = .ok (.iload 5, 2) := by decide +kernel
theorem dX10_build_109 : decode cX10_build 109 = .ok (.iadd, 1) := by decide +kernel
theorem dX10_build_110 : decode cX10_build 110 = .ok (.bipush 100, 2) := by decide +kernel
theorem dX10_build_112 : decode cX10_build 112 = .ok (.isub, 1) := by decide +kernel
theorem dX10_build_113 : decode cX10_build 113 = .ok (.goto 5, 3) := by decide +kernel
theorem dX10_build_116 : decode cX10_build 116 = .ok (.iload 5, 2) := by decide +kernel
theorem dX10_build_118 : decode cX10_build 118 = .ok (.iastore, 1) := by decide +kernel
theorem dX10_build_119 : decode cX10_build 119 = .ok (.iinc 4 1, 3) := by decide +kernel
theorem dX10_build_122 : decode cX10_build 122 = .ok (.goto (-57), 3) := by decide +kernel
theorem dX10_build_125 : decode cX10_build 125 = .ok (.iconst 0, 1) := by decide +kernel
theorem dX10_build_126 : decode cX10_build 126 = .ok (.istore 4, 2) := by decide +kernel
theorem dX10_build_128 : decode cX10_build 128 = .ok (.iload 4, 2) := by decide +kernel
theorem dX10_build_130 : decode cX10_build 130 = .ok (.iconst 4, 1) := by decide +kernel
theorem dX10_build_131 : decode cX10_build 131 = .ok (.if_icmp .ge 37, 3) := by decide +kernel
theorem dX10_build_134 : decode cX10_build 134 = .ok (.aload_n 0, 1) := by decide +kernel
theorem dX10_build_135 : decode cX10_build 135 = .ok (.getfield 7, 3) := by decide +kernel
theorem dX10_build_138 : decode cX10_build 138 = .ok (.iload_n 3, 1) := by decide +kernel
theorem dX10_build_139 : decode cX10_build 139 = .ok (.bipush 6, 2) := by decide +kernel
theorem dX10_build_141 : decode cX10_build 141 = .ok (.iload 4, 2) := by decide +kernel
theorem dX10_build_143 : decode cX10_build 143 = .ok (.iadd, 1) := by decide +kernel
theorem dX10_build_144 : decode cX10_build 144 = .ok (.invokestatic 73, 3) := by decide +kernel
theorem dX10_build_147 : decode cX10_build 147 = .ok (.aload_n 0, 1) := by decide +kernel
theorem dX10_build_148 : decode cX10_build 148 = .ok (.getfield 63, 3) := by decide +kernel
theorem dX10_build_151 : decode cX10_build 151 = .ok (.bipush 8, 2) := by decide +kernel
theorem dX10_build_153 : decode cX10_build 153 = .ok (.iload_n 2, 1) := by decide +kernel
theorem dX10_build_154 : decode cX10_build 154 = .ok (.imul, 1) := by decide +kernel
theorem dX10_build_155 : decode cX10_build 155 = .ok (.iconst 4, 1) := by decide +kernel
theorem dX10_build_156 : decode cX10_build 156 = .ok (.iadd, 1) := by decide +kernel
theorem dX10_build_157 : decode cX10_build 157 = .ok (.iload 4, 2) := by decide +kernel
theorem dX10_build_159 : decode cX10_build 159 = .ok (.iadd, 1) := by decide +kernel
theorem dX10_build_160 : decode cX10_build 160 = .ok (.iaload, 1) := by decide +kernel
theorem dX10_build_161 : decode cX10_build 161 = .ok (.iastore, 1) := by decide +kernel
theorem dX10_build_162 : decode cX10_build 162 = .ok (.iinc 4 1, 3) := by decide +kernel
theorem dX10_build_165 : decode cX10_build 165 = .ok (.goto (-37), 3) := by decide +kernel
theorem dX10_build_168 : decode cX10_build 168 = .ok (.iinc 2 1, 3) := by decide +kernel
theorem dX10_build_171 : decode cX10_build 171 = .ok (.goto (-131), 3) := by decide +kernel
theorem dX10_build_174 : decode cX10_build 174 = .ok (.aload_n 0, 1) := by decide +kernel
theorem dX10_build_175 : decode cX10_build 175 = .ok (.getfield 66, 3) := by decide +kernel
theorem dX10_build_178 : decode cX10_build 178 = .ok (.iconst 0, 1) := by decide +kernel
theorem dX10_build_179 : decode cX10_build 179 = .ok (.iaload, 1) := by decide +kernel
theorem dX10_build_180 : decode cX10_build 180 = .ok (.bipush 100, 2) := by decide +kernel
theorem dX10_build_182 : decode cX10_build 182 = .ok (.if_icmp .lt 17, 3) := by decide +kernel
theorem dX10_build_185 : decode cX10_build 185 = .ok (.iload_n 1, 1) := by decide +kernel
theorem dX10_build_186 : decode cX10_build 186 = .ok (.aload_n 0, 1) := by decide +kernel
theorem dX10_build_187 : decode cX10_build 187 = .ok (.getfield 66, 3) := by decide +kernel
theorem dX10_build_190 : decode cX10_build 190 = .ok (.iconst 0, 1) := by decide +kernel
theorem dX10_build_191 : decode cX10_build 191 = .ok (.iaload, 1) := by decide +kernel
theorem dX10_build_192 : decode cX10_build 192 = .ok (.iadd, 1) := by decide +kernel
theorem dX10_build_193 : decode cX10_build 193 = .ok (.bipush 100, 2) := by decide +kernel
theorem dX10_build_195 : decode cX10_build 195 = .ok (.isub, 1) := by decide +kernel
theorem dX10_build_196 : decode cX10_build 196 = .ok (.goto 9, 3) := by decide +kernel
theorem dX10_build_199 : decode cX10_build 199 = .ok (.aload_n 0, 1) := by decide +kernel
theorem dX10_build_200 : decode cX10_build 200 = .ok (.getfield 66, 3) := by decide +kernel
theorem dX10_build_203 : decode cX10_build 203 = .ok (.iconst 0, 1) := by decide +kernel
theorem dX10_build_204 : decode cX10_build 204 = .ok (.iaload, 1) := by decide +kernel
theorem dX10_build_205 : decode cX10_build 205 = .ok (.ireturn, 1) := by decide +kernel
theorem dX10_checksum_0 : decode cX10_checksum 0 = .ok (.ldc2_w 237, 3) := by decide +kernel
theorem dX10_checksum_3 : decode cX10_checksum 3 = .ok (.aload_n 0, 1) := by decide +kernel
theorem dX10_checksum_4 : decode cX10_checksum 4 = .ok (.getfield 7, 3) := by decide +kernel
theorem dX10_checksum_7 : decode cX10_checksum 7 = .ok (.iconst 0, 1) := by decide +kernel
theorem dX10_checksum_8 : decode cX10_checksum 8 = .ok (.iaload, 1) := by decide +kernel
theorem dX10_checksum_9 : decode cX10_checksum 9 = .ok (.invokestatic 239, 3) := by decide +kernel
theorem dX10_checksum_12 : decode cX10_checksum 12 = .ok (.lstore_n 1, 1) := by decide +kernel
theorem dX10_checksum_13 : decode cX10_checksum 13 = .ok (.iconst 0, 1) := by decide +kernel
theorem dX10_checksum_14 : decode cX10_checksum 14 = .ok (.istore_n 3, 1) := by decide +kernel
theorem dX10_checksum_15 : decode cX10_checksum 15 = .ok (.iload_n 3, 1) := by decide +kernel
theorem dX10_checksum_16 : decode cX10_checksum 16 = .ok (.aload_n 0, 1) := by decide +kernel
theorem dX10_checksum_17 : decode cX10_checksum 17 = .ok (.getfield 7, 3) := by decide +kernel
theorem dX10_checksum_20 : decode cX10_checksum 20 = .ok (.iconst 0, 1) := by decide +kernel
theorem dX10_checksum_21 : decode cX10_checksum 21 = .ok (.iaload, 1) := by decide +kernel
theorem dX10_checksum_22 : decode cX10_checksum 22 = .ok (.if_icmp .ge 122, 3) := by decide +kernel
theorem dX10_checksum_25 : decode cX10_checksum 25 = .ok (.iconst 0, 1) := by decide +kernel
theorem dX10_checksum_26 : decode cX10_checksum 26 = .ok (.istore 4, 2) := by decide +kernel
theorem dX10_checksum_28 : decode cX10_checksum 28 = .ok (.iload 4, 2) := by decide +kernel
theorem dX10_checksum_30 : decode cX10_checksum 30 = .ok (.bipush 6, 2) := by decide +kernel
theorem dX10_checksum_32 : decode cX10_checksum 32 = .ok (.if_icmp .ge 21, 3) := by decide +kernel
theorem dX10_checksum_35 : decode cX10_checksum 35 = .ok (.lload_n 1, 1) := by decide +kernel
theorem dX10_checksum_36 : decode cX10_checksum 36 = .ok (.aload_n 0, 1) := by decide +kernel
theorem dX10_checksum_37 : decode cX10_checksum 37 = .ok (.iload_n 3, 1) := by decide +kernel
theorem dX10_checksum_38 : decode cX10_checksum 38 = .ok (.iload 4, 2) := by decide +kernel
theorem dX10_checksum_40 : decode cX10_checksum 40 = .ok (.invokevirtual 130, 3) := by decide +kernel
theorem dX10_checksum_43 : decode cX10_checksum 43 = .ok (.invokestatic 239, 3) := by decide +kernel
theorem dX10_checksum_46 : decode cX10_checksum 46 = .ok (.lstore_n 1, 1) := by decide +kernel
theorem dX10_checksum_47 : decode cX10_checksum 47 = .ok (.iinc 4 1, 3) := by decide +kernel
theorem dX10_checksum_50 : decode cX10_checksum 50 = .ok (.goto (-22), 3) := by decide +kernel
theorem dX10_checksum_53 : decode cX10_checksum 53 = .ok (.iconst 0, 1) := by decide +kernel
theorem dX10_checksum_54 : decode cX10_checksum 54 = .ok (.istore 4, 2) := by decide +kernel
theorem dX10_checksum_56 : decode cX10_checksum 56 = .ok (.iload 4, 2) := by decide +kernel
theorem dX10_checksum_58 : decode cX10_checksum 58 = .ok (.aload_n 0, 1) := by decide +kernel
theorem dX10_checksum_59 : decode cX10_checksum 59 = .ok (.getfield 42, 3) := by decide +kernel
theorem dX10_checksum_62 : decode cX10_checksum 62 = .ok (.aload_n 0, 1) := by decide +kernel
theorem dX10_checksum_63 : decode cX10_checksum 63 = .ok (.iload_n 3, 1) := by decide +kernel
theorem dX10_checksum_64 : decode cX10_checksum 64 = .ok (.invokevirtual 81, 3) := by decide +kernel
theorem dX10_checksum_67 : decode cX10_checksum 67 = .ok (.iaload, 1) := by decide +kernel
theorem dX10_checksum_68 : decode cX10_checksum 68 = .ok (.if_icmp .ge 27, 3) := by decide +kernel
theorem dX10_checksum_71 : decode cX10_checksum 71 = .ok (.lload_n 1, 1) := by decide +kernel
theorem dX10_checksum_72 : decode cX10_checksum 72 = .ok (.aload_n 0, 1) := by decide +kernel
theorem dX10_checksum_73 : decode cX10_checksum 73 = .ok (.getfield 7, 3) := by decide +kernel
theorem dX10_checksum_76 : decode cX10_checksum 76 = .ok (.iload_n 3, 1) := by decide +kernel
theorem dX10_checksum_77 : decode cX10_checksum 77 = .ok (.iconst 3, 1) := by decide +kernel
theorem dX10_checksum_78 : decode cX10_checksum 78 = .ok (.iload 4, 2) := by decide +kernel
theorem dX10_checksum_80 : decode cX10_checksum 80 = .ok (.iadd, 1) := by decide +kernel
theorem dX10_checksum_81 : decode cX10_checksum 81 = .ok (.invokestatic 73, 3) := by decide +kernel
theorem dX10_checksum_84 : decode cX10_checksum 84 = .ok (.iaload, 1) := by decide +kernel
theorem dX10_checksum_85 : decode cX10_checksum 85 = .ok (.invokestatic 239, 3) := by decide +kernel
theorem dX10_checksum_88 : decode cX10_checksum 88 = .ok (.lstore_n 1, 1) := by decide +kernel
theorem dX10_checksum_89 : decode cX10_checksum 89 = .ok (.iinc 4 1, 3) := by decide +kernel
theorem dX10_checksum_92 : decode cX10_checksum 92 = .ok (.goto (-36), 3) := by decide +kernel
theorem dX10_checksum_95 : decode cX10_checksum 95 = .ok (.iconst 0, 1) := by decide +kernel
theorem dX10_checksum_96 : decode cX10_checksum 96 = .ok (.istore 4, 2) := by decide +kernel
theorem dX10_checksum_98 : decode cX10_checksum 98 = .ok (.iload 4, 2) := by decide +kernel
theorem dX10_checksum_100 : decode cX10_checksum 100 = .ok (.aload_n 0, 1) := by decide +kernel
theorem dX10_checksum_101 : decode cX10_checksum 101 = .ok (.getfield 45, 3) := by decide +kernel
theorem dX10_checksum_104 : decode cX10_checksum 104 = .ok (.aload_n 0, 1) := by decide +kernel
theorem dX10_checksum_105 : decode cX10_checksum 105 = .ok (.iload_n 3, 1) := by decide +kernel
theorem dX10_checksum_106 : decode cX10_checksum 106 = .ok (.invokevirtual 81, 3) := by decide +kernel
theorem dX10_checksum_109 : decode cX10_checksum 109 = .ok (.iaload, 1) := by decide +kernel
theorem dX10_checksum_110 : decode cX10_checksum 110 = .ok (.if_icmp .ge 28, 3) := by decide +kernel
theorem dX10_checksum_113 : decode cX10_checksum 113 = .ok (.lload_n 1, 1) := by decide +kernel
theorem dX10_checksum_114 : decode cX10_checksum 114 = .ok (.aload_n 0, 1) := by decide +kernel
theorem dX10_checksum_115 : decode cX10_checksum 115 = .ok (.getfield 7, 3) := by decide +kernel
theorem dX10_checksum_118 : decode cX10_checksum 118 = .ok (.iload_n 3, 1) := by decide +kernel
theorem dX10_checksum_119 : decode cX10_checksum 119 = .ok (.bipush 6, 2) := by decide +kernel
theorem dX10_checksum_121 : decode cX10_checksum 121 = .ok (.iload 4, 2) := by decide +kernel
theorem dX10_checksum_123 : decode cX10_checksum 123 = .ok (.iadd, 1) := by decide +kernel
theorem dX10_checksum_124 : decode cX10_checksum 124 = .ok (.invokestatic 73, 3) := by decide +kernel
theorem dX10_checksum_127 : decode cX10_checksum 127 = .ok (.iaload, 1) := by decide +kernel
theorem dX10_checksum_128 : decode cX10_checksum 128 = .ok (.invokestatic 239, 3) := by decide +kernel
theorem dX10_checksum_131 : decode cX10_checksum 131 = .ok (.lstore_n 1, 1) := by decide +kernel
theorem dX10_checksum_132 : decode cX10_checksum 132 = .ok (.iinc 4 1, 3) := by decide +kernel
theorem dX10_checksum_135 : decode cX10_checksum 135 = .ok (.goto (-37), 3) := by decide +kernel
theorem dX10_checksum_138 : decode cX10_checksum 138 = .ok (.iinc 3 1, 3) := by decide +kernel
theorem dX10_checksum_141 : decode cX10_checksum 141 = .ok (.goto (-126), 3) := by decide +kernel
theorem dX10_checksum_144 : decode cX10_checksum 144 = .ok (.iconst 0, 1) := by decide +kernel
theorem dX10_checksum_145 : decode cX10_checksum 145 = .ok (.istore_n 3, 1) := by decide +kernel
theorem dX10_checksum_146 : decode cX10_checksum 146 = .ok (.iload_n 3, 1) := by decide +kernel
theorem dX10_checksum_147 : decode cX10_checksum 147 = .ok (.iconst 5, 1) := by decide +kernel
theorem dX10_checksum_148 : decode cX10_checksum 148 = .ok (.if_icmp .ge 19, 3) := by decide +kernel
theorem dX10_checksum_151 : decode cX10_checksum 151 = .ok (.lload_n 1, 1) := by decide +kernel
theorem dX10_checksum_152 : decode cX10_checksum 152 = .ok (.aload_n 0, 1) := by decide +kernel
theorem dX10_checksum_153 : decode cX10_checksum 153 = .ok (.iload_n 3, 1) := by decide +kernel
theorem dX10_checksum_154 : decode cX10_checksum 154 = .ok (.invokevirtual 187, 3) := by decide +kernel
theorem dX10_checksum_157 : decode cX10_checksum 157 = .ok (.invokestatic 239, 3) := by decide +kernel
theorem dX10_checksum_160 : decode cX10_checksum 160 = .ok (.lstore_n 1, 1) := by decide +kernel
theorem dX10_checksum_161 : decode cX10_checksum 161 = .ok (.iinc 3 1, 3) := by decide +kernel
theorem dX10_checksum_164 : decode cX10_checksum 164 = .ok (.goto (-18), 3) := by decide +kernel
theorem dX10_checksum_167 : decode cX10_checksum 167 = .ok (.iconst 0, 1) := by decide +kernel
theorem dX10_checksum_168 : decode cX10_checksum 168 = .ok (.istore_n 3, 1) := by decide +kernel
theorem dX10_checksum_169 : decode cX10_checksum 169 = .ok (.iload_n 3, 1) := by decide +kernel
theorem dX10_checksum_170 : decode cX10_checksum 170 = .ok (.aload_n 0, 1) := by decide +kernel
theorem dX10_checksum_171 : decode cX10_checksum 171 = .ok (.getfield 7, 3) := by decide +kernel
theorem dX10_checksum_174 : decode cX10_checksum 174 = .ok (.iconst 0, 1) := by decide +kernel
theorem dX10_checksum_175 : decode cX10_checksum 175 = .ok (.iaload, 1) := by decide +kernel
theorem dX10_checksum_176 : decode cX10_checksum 176 = .ok (.if_icmp .ge 45, 3) := by decide +kernel
theorem dX10_checksum_179 : decode cX10_checksum 179 = .ok (.iconst 0, 1) := by decide +kernel
theorem dX10_checksum_180 : decode cX10_checksum 180 = .ok (.istore 4, 2) := by decide +kernel
theorem dX10_checksum_182 : decode cX10_checksum 182 = .ok (.iload 4, 2) := by decide +kernel
theorem dX10_checksum_184 : decode cX10_checksum 184 = .ok (.bipush 10, 2) := by decide +kernel
theorem dX10_checksum_186 : decode cX10_checksum 186 = .ok (.if_icmp .ge 29, 3) := by decide +kernel
theorem dX10_checksum_189 : decode cX10_checksum 189 = .ok (.lload_n 1, 1) := by decide +kernel
theorem dX10_checksum_190 : decode cX10_checksum 190 = .ok (.aload_n 0, 1) := by decide +kernel
theorem dX10_checksum_191 : decode cX10_checksum 191 = .ok (.iload_n 3, 1) := by decide +kernel
theorem dX10_checksum_192 : decode cX10_checksum 192 = .ok (.iload 4, 2) := by decide +kernel
theorem dX10_checksum_194 : decode cX10_checksum 194 = .ok (.invokevirtual 140, 3) := by decide +kernel
theorem dX10_checksum_197 : decode cX10_checksum 197 = .ok (.ifCond .ge 7, 3) := by decide +kernel
theorem dX10_checksum_200 : decode cX10_checksum 200 = .ok (.iconst 0, 1) := by decide +kernel
theorem dX10_checksum_201 : decode cX10_checksum 201 = .ok (.goto 4, 3) := by decide +kernel
theorem dX10_checksum_204 : decode cX10_checksum 204 = .ok (.iconst 1, 1) := by decide +kernel
theorem dX10_checksum_205 : decode cX10_checksum 205 = .ok (.invokestatic 239, 3) := by decide +kernel
theorem dX10_checksum_208 : decode cX10_checksum 208 = .ok (.lstore_n 1, 1) := by decide +kernel
theorem dX10_checksum_209 : decode cX10_checksum 209 = .ok (.iinc 4 1, 3) := by decide +kernel
theorem dX10_checksum_212 : decode cX10_checksum 212 = .ok (.goto (-30), 3) := by decide +kernel
theorem dX10_checksum_215 : decode cX10_checksum 215 = .ok (.iinc 3 1, 3) := by decide +kernel
theorem dX10_checksum_218 : decode cX10_checksum 218 = .ok (.goto (-49), 3) := by decide +kernel
theorem dX10_checksum_221 : decode cX10_checksum 221 = .ok (.lload_n 1, 1) := by decide +kernel
theorem dX10_checksum_222 : decode cX10_checksum 222 = .ok (.lreturn, 1) := by decide +kernel
theorem dX10_clear_0 : decode cX10_clear 0 = .ok (.aload_n 0, 1) := by decide +kernel
theorem dX10_clear_1 : decode cX10_clear 1 = .ok (.getfield 7, 3) := by decide +kernel
theorem dX10_clear_4 : decode cX10_clear 4 = .ok (.iconst 0, 1) := by decide +kernel
theorem dX10_clear_5 : decode cX10_clear 5 = .ok (.iaload, 1) := by decide +kernel
theorem dX10_clear_6 : decode cX10_clear 6 = .ok (.istore_n 1, 1) := by decide +kernel
theorem dX10_clear_7 : decode cX10_clear 7 = .ok (.aload_n 0, 1) := by decide +kernel
theorem dX10_clear_8 : decode cX10_clear 8 = .ok (.getfield 7, 3) := by decide +kernel
theorem dX10_clear_11 : decode cX10_clear 11 = .ok (.iconst 0, 1) := by decide +kernel
theorem dX10_clear_12 : decode cX10_clear 12 = .ok (.iconst 0, 1) := by decide +kernel
theorem dX10_clear_13 : decode cX10_clear 13 = .ok (.iastore, 1) := by decide +kernel
theorem dX10_clear_14 : decode cX10_clear 14 = .ok (.aload_n 0, 1) := by decide +kernel
theorem dX10_clear_15 : decode cX10_clear 15 = .ok (.iconst 0, 1) := by decide +kernel
theorem dX10_clear_16 : decode cX10_clear 16 = .ok (.putfield 85, 3) := by decide +kernel
theorem dX10_clear_19 : decode cX10_clear 19 = .ok (.iload_n 1, 1) := by decide +kernel
theorem dX10_clear_20 : decode cX10_clear 20 = .ok (.ireturn, 1) := by decide +kernel
theorem dX10_clearText_0 : decode cX10_clearText 0 = .ok (.aload_n 0, 1) := by decide +kernel
theorem dX10_clearText_1 : decode cX10_clearText 1 = .ok (.getfield 190, 3) := by decide +kernel
theorem dX10_clearText_4 : decode cX10_clearText 4 = .ok (.istore_n 1, 1) := by decide +kernel
theorem dX10_clearText_5 : decode cX10_clearText 5 = .ok (.aload_n 0, 1) := by decide +kernel
theorem dX10_clearText_6 : decode cX10_clearText 6 = .ok (.iconst 0, 1) := by decide +kernel
theorem dX10_clearText_7 : decode cX10_clearText 7 = .ok (.putfield 190, 3) := by decide +kernel
theorem dX10_clearText_10 : decode cX10_clearText 10 = .ok (.iload_n 1, 1) := by decide +kernel
theorem dX10_clearText_11 : decode cX10_clearText 11 = .ok (.ireturn, 1) := by decide +kernel
theorem dX10_compare_0 : decode cX10_compare 0 = .ok (.aload_n 0, 1) := by decide +kernel
theorem dX10_compare_1 : decode cX10_compare 1 = .ok (.iload_n 1, 1) := by decide +kernel
theorem dX10_compare_2 : decode cX10_compare 2 = .ok (.iload_n 3, 1) := by decide +kernel
theorem dX10_compare_3 : decode cX10_compare 3 = .ok (.invokevirtual 178, 3) := by decide +kernel
theorem dX10_compare_6 : decode cX10_compare 6 = .ok (.ifCond .eq 11, 3) := by decide +kernel
theorem dX10_compare_9 : decode cX10_compare 9 = .ok (.aload_n 0, 1) := by decide +kernel
theorem dX10_compare_10 : decode cX10_compare 10 = .ok (.iload_n 2, 1) := by decide +kernel
theorem dX10_compare_11 : decode cX10_compare 11 = .ok (.invokevirtual 77, 3) := by decide +kernel
theorem dX10_compare_14 : decode cX10_compare 14 = .ok (.ifCond .ne 7, 3) := by decide +kernel
theorem dX10_compare_17 : decode cX10_compare 17 = .ok (.sipush (-1001), 3) := by decide +kernel
theorem dX10_compare_20 : decode cX10_compare 20 = .ok (.ireturn, 1) := by decide +kernel
theorem dX10_compare_21 : decode cX10_compare 21 = .ok (.aload_n 0, 1) := by decide +kernel
theorem dX10_compare_22 : decode cX10_compare 22 = .ok (.iload_n 1, 1) := by decide +kernel
theorem dX10_compare_23 : decode cX10_compare 23 = .ok (.iload_n 3, 1) := by decide +kernel
theorem dX10_compare_24 : decode cX10_compare 24 = .ok (.invokevirtual 181, 3) := by decide +kernel
theorem dX10_compare_27 : decode cX10_compare 27 = .ok (.istore 4, 2) := by decide +kernel
theorem dX10_compare_29 : decode cX10_compare 29 = .ok (.bipush 96, 2) := by decide +kernel
theorem dX10_compare_31 : decode cX10_compare 31 = .ok (.aload_n 0, 1) := by decide +kernel
theorem dX10_compare_32 : decode cX10_compare 32 = .ok (.iload_n 2, 1) := by decide +kernel
theorem dX10_compare_33 : decode cX10_compare 33 = .ok (.iload_n 3, 1) := by decide +kernel
theorem dX10_compare_34 : decode cX10_compare 34 = .ok (.invokevirtual 181, 3) := by decide +kernel
theorem dX10_compare_37 : decode cX10_compare 37 = .ok (.imul, 1) := by decide +kernel
theorem dX10_compare_38 : decode cX10_compare 38 = .ok (.istore 5, 2) := by decide +kernel
theorem dX10_compare_40 : decode cX10_compare 40 = .ok (.bipush 96, 2) := by decide +kernel
theorem dX10_compare_42 : decode cX10_compare 42 = .ok (.aload_n 0, 1) := by decide +kernel
theorem dX10_compare_43 : decode cX10_compare 43 = .ok (.iload_n 1, 1) := by decide +kernel
theorem dX10_compare_44 : decode cX10_compare 44 = .ok (.iload_n 3, 1) := by decide +kernel
theorem dX10_compare_45 : decode cX10_compare 45 = .ok (.invokevirtual 140, 3) := by decide +kernel
theorem dX10_compare_48 : decode cX10_compare 48 = .ok (.imul, 1) := by decide +kernel
theorem dX10_compare_49 : decode cX10_compare 49 = .ok (.istore 6, 2) := by decide +kernel
theorem dX10_compare_51 : decode cX10_compare 51 = .ok (.iconst 0, 1) := by decide +kernel
theorem dX10_compare_52 : decode cX10_compare 52 = .ok (.istore 7, 2) := by decide +kernel
theorem dX10_compare_54 : decode cX10_compare 54 = .ok (.iconst 0, 1) := by decide +kernel
theorem dX10_compare_55 : decode cX10_compare 55 = .ok (.istore 8, 2) := by decide +kernel
theorem dX10_compare_57 : decode cX10_compare 57 = .ok (.iload 8, 2) := by decide +kernel
theorem dX10_compare_59 : decode cX10_compare 59 = .ok (.bipush 96, 2) := by decide +kernel
theorem dX10_compare_61 : decode cX10_compare 61 = .ok (.if_icmp .ge 63, 3) := by decide +kernel
theorem dX10_compare_64 : decode cX10_compare 64 = .ok (.aload_n 0, 1) := by decide +kernel
theorem dX10_compare_65 : decode cX10_compare 65 = .ok (.getfield 33, 3) := by decide +kernel
theorem dX10_compare_68 : decode cX10_compare 68 = .ok (.iload 6, 2) := by decide +kernel
theorem dX10_compare_70 : decode cX10_compare 70 = .ok (.iload 8, 2) := by decide +kernel
theorem dX10_compare_72 : decode cX10_compare 72 = .ok (.iadd, 1) := by decide +kernel
theorem dX10_compare_73 : decode cX10_compare 73 = .ok (.iaload, 1) := by decide +kernel
theorem dX10_compare_74 : decode cX10_compare 74 = .ok (.aload_n 0, 1) := by decide +kernel
theorem dX10_compare_75 : decode cX10_compare 75 = .ok (.getfield 33, 3) := by decide +kernel
theorem dX10_compare_78 : decode cX10_compare 78 = .ok (.iload 5, 2) := by decide +kernel
theorem dX10_compare_80 : decode cX10_compare 80 = .ok (.iload 8, 2) := by decide +kernel
theorem dX10_compare_82 : decode cX10_compare 82 = .ok (.iadd, 1) := by decide +kernel
theorem dX10_compare_83 : decode cX10_compare 83 = .ok (.iaload, 1) := by decide +kernel
theorem dX10_compare_84 : decode cX10_compare 84 = .ok (.isub, 1) := by decide +kernel
theorem dX10_compare_85 : decode cX10_compare 85 = .ok (.istore 9, 2) := by decide +kernel
theorem dX10_compare_87 : decode cX10_compare 87 = .ok (.iload 9, 2) := by decide +kernel
theorem dX10_compare_89 : decode cX10_compare 89 = .ok (.ifCond .ge 9, 3) := by decide +kernel
theorem dX10_compare_92 : decode cX10_compare 92 = .ok (.iload 9, 2) := by decide +kernel
theorem dX10_compare_94 : decode cX10_compare 94 = .ok (.ineg, 1) := by decide +kernel
theorem dX10_compare_95 : decode cX10_compare 95 = .ok (.goto 5, 3) := by decide +kernel
theorem dX10_compare_98 : decode cX10_compare 98 = .ok (.iload 9, 2) := by decide +kernel
theorem dX10_compare_100 : decode cX10_compare 100 = .ok (.istore 9, 2) := by decide +kernel
theorem dX10_compare_102 : decode cX10_compare 102 = .ok (.iload 9, 2) := by decide +kernel
theorem dX10_compare_104 : decode cX10_compare 104 = .ok (.iload 7, 2) := by decide +kernel
theorem dX10_compare_106 : decode cX10_compare 106 = .ok (.if_icmp .le 8, 3) := by decide +kernel
theorem dX10_compare_109 : decode cX10_compare 109 = .ok (.iload 9, 2) := by decide +kernel
theorem dX10_compare_111 : decode cX10_compare 111 = .ok (.goto 5, 3) := by decide +kernel
theorem dX10_compare_114 : decode cX10_compare 114 = .ok (.iload 7, 2) := by decide +kernel
theorem dX10_compare_116 : decode cX10_compare 116 = .ok (.istore 7, 2) := by decide +kernel
theorem dX10_compare_118 : decode cX10_compare 118 = .ok (.iinc 8 1, 3) := by decide +kernel
theorem dX10_compare_121 : decode cX10_compare 121 = .ok (.goto (-64), 3) := by decide +kernel
theorem dX10_compare_124 : decode cX10_compare 124 = .ok (.iload 7, 2) := by decide +kernel
theorem dX10_compare_126 : decode cX10_compare 126 = .ok (.ireturn, 1) := by decide +kernel
theorem dX10_connect_0 : decode cX10_connect 0 = .ok (.aload_n 0, 1) := by decide +kernel
theorem dX10_connect_1 : decode cX10_connect 1 = .ok (.iload_n 1, 1) := by decide +kernel
theorem dX10_connect_2 : decode cX10_connect 2 = .ok (.iload_n 2, 1) := by decide +kernel
theorem dX10_connect_3 : decode cX10_connect 3 = .ok (.invokevirtual 101, 3) := by decide +kernel
theorem dX10_connect_6 : decode cX10_connect 6 = .ok (.ifCond .eq 18, 3) := by decide +kernel
theorem dX10_connect_9 : decode cX10_connect 9 = .ok (.iload_n 3, 1) := by decide +kernel
theorem dX10_connect_10 : decode cX10_connect 10 = .ok (.sipush (-1005), 3) := by decide +kernel
theorem dX10_connect_13 : decode cX10_connect 13 = .ok (.if_icmp .eq 15, 3) := by decide +kernel
theorem dX10_connect_16 : decode cX10_connect 16 = .ok (.aload_n 0, 1) := by decide +kernel
theorem dX10_connect_17 : decode cX10_connect 17 = .ok (.iload_n 3, 1) := by decide +kernel
theorem dX10_connect_18 : decode cX10_connect 18 = .ok (.invokevirtual 77, 3) := by decide +kernel
theorem dX10_connect_21 : decode cX10_connect 21 = .ok (.ifCond .ne 7, 3) := by decide +kernel
theorem dX10_connect_24 : decode cX10_connect 24 = .ok (.sipush (-1001), 3) := by decide +kernel
theorem dX10_connect_27 : decode cX10_connect 27 = .ok (.ireturn, 1) := by decide +kernel
theorem dX10_connect_28 : decode cX10_connect 28 = .ok (.iload_n 3, 1) := by decide +kernel
theorem dX10_connect_29 : decode cX10_connect 29 = .ok (.sipush (-1005), 3) := by decide +kernel
theorem dX10_connect_32 : decode cX10_connect 32 = .ok (.if_icmp .eq 20, 3) := by decide +kernel
theorem dX10_connect_35 : decode cX10_connect 35 = .ok (.aload_n 0, 1) := by decide +kernel
theorem dX10_connect_36 : decode cX10_connect 36 = .ok (.iload_n 1, 1) := by decide +kernel
theorem dX10_connect_37 : decode cX10_connect 37 = .ok (.invokevirtual 94, 3) := by decide +kernel
theorem dX10_connect_40 : decode cX10_connect 40 = .ok (.iload_n 3, 1) := by decide +kernel
theorem dX10_connect_41 : decode cX10_connect 41 = .ok (.ishr, 1) := by decide +kernel
theorem dX10_connect_42 : decode cX10_connect 42 = .ok (.iconst 1, 1) := by decide +kernel
theorem dX10_connect_43 : decode cX10_connect 43 = .ok (.iand, 1) := by decide +kernel
theorem dX10_connect_44 : decode cX10_connect 44 = .ok (.iconst 1, 1) := by decide +kernel
theorem dX10_connect_45 : decode cX10_connect 45 = .ok (.if_icmp .ne 7, 3) := by decide +kernel
theorem dX10_connect_48 : decode cX10_connect 48 = .ok (.sipush (-1003), 3) := by decide +kernel
theorem dX10_connect_51 : decode cX10_connect 51 = .ok (.ireturn, 1) := by decide +kernel
theorem dX10_connect_52 : decode cX10_connect 52 = .ok (.aload_n 0, 1) := by decide +kernel
theorem dX10_connect_53 : decode cX10_connect 53 = .ok (.getfield 7, 3) := by decide +kernel
theorem dX10_connect_56 : decode cX10_connect 56 = .ok (.iload_n 1, 1) := by decide +kernel
theorem dX10_connect_57 : decode cX10_connect 57 = .ok (.iconst 3, 1) := by decide +kernel
theorem dX10_connect_58 : decode cX10_connect 58 = .ok (.iload_n 2, 1) := by decide +kernel
theorem dX10_connect_59 : decode cX10_connect 59 = .ok (.iadd, 1) := by decide +kernel
theorem dX10_connect_60 : decode cX10_connect 60 = .ok (.invokestatic 73, 3) := by decide +kernel
theorem dX10_connect_63 : decode cX10_connect 63 = .ok (.iload_n 3, 1) := by decide +kernel
theorem dX10_connect_64 : decode cX10_connect 64 = .ok (.iastore, 1) := by decide +kernel
theorem dX10_connect_65 : decode cX10_connect 65 = .ok (.iload_n 2, 1) := by decide +kernel
theorem dX10_connect_66 : decode cX10_connect 66 = .ok (.ifCond .ne 16, 3) := by decide +kernel
theorem dX10_connect_69 : decode cX10_connect 69 = .ok (.aload_n 0, 1) := by decide +kernel
theorem dX10_connect_70 : decode cX10_connect 70 = .ok (.iload_n 1, 1) := by decide +kernel
theorem dX10_connect_71 : decode cX10_connect 71 = .ok (.iconst 0, 1) := by decide +kernel
theorem dX10_connect_72 : decode cX10_connect 72 = .ok (.bipush 99, 2) := by decide +kernel
theorem dX10_connect_74 : decode cX10_connect 74 = .ok (.iconst 1, 1) := by decide +kernel
theorem dX10_connect_75 : decode cX10_connect 75 = .ok (.iconst 0, 1) := by decide +kernel
theorem dX10_connect_76 : decode cX10_connect 76 = .ok (.invokevirtual 105, 3) := by decide +kernel
theorem dX10_connect_79 : decode cX10_connect 79 = .ok (.goto 30, 3) := by decide +kernel
theorem dX10_connect_82 : decode cX10_connect 82 = .ok (.aload_n 0, 1) := by decide +kernel
theorem dX10_connect_83 : decode cX10_connect 83 = .ok (.iload_n 1, 1) := by decide +kernel
theorem dX10_connect_84 : decode cX10_connect 84 = .ok (.aload_n 0, 1) := by decide +kernel
theorem dX10_connect_85 : decode cX10_connect 85 = .ok (.getfield 7, 3) := by decide +kernel
theorem dX10_connect_88 : decode cX10_connect 88 = .ok (.iload_n 1, 1) := by decide +kernel
theorem dX10_connect_89 : decode cX10_connect 89 = .ok (.iconst 1, 1) := by decide +kernel
theorem dX10_connect_90 : decode cX10_connect 90 = .ok (.invokestatic 73, 3) := by decide +kernel
theorem dX10_connect_93 : decode cX10_connect 93 = .ok (.iaload, 1) := by decide +kernel
theorem dX10_connect_94 : decode cX10_connect 94 = .ok (.aload_n 0, 1) := by decide +kernel
theorem dX10_connect_95 : decode cX10_connect 95 = .ok (.getfield 7, 3) := by decide +kernel
theorem dX10_connect_98 : decode cX10_connect 98 = .ok (.iload_n 1, 1) := by decide +kernel
theorem dX10_connect_99 : decode cX10_connect 99 = .ok (.iconst 2, 1) := by decide +kernel
theorem dX10_connect_100 : decode cX10_connect 100 = .ok (.invokestatic 73, 3) := by decide +kernel
theorem dX10_connect_103 : decode cX10_connect 103 = .ok (.iaload, 1) := by decide +kernel
theorem dX10_connect_104 : decode cX10_connect 104 = .ok (.iconst 1, 1) := by decide +kernel
theorem dX10_connect_105 : decode cX10_connect 105 = .ok (.iconst 0, 1) := by decide +kernel
theorem dX10_connect_106 : decode cX10_connect 106 = .ok (.invokevirtual 105, 3) := by decide +kernel
theorem dX10_connect_109 : decode cX10_connect 109 = .ok (.ireturn, 1) := by decide +kernel
theorem dX10_count_0 : decode cX10_count 0 = .ok (.iload_n 1, 1) := by decide +kernel
theorem dX10_count_1 : decode cX10_count 1 = .ok (.iconst 0, 1) := by decide +kernel
theorem dX10_count_2 : decode cX10_count 2 = .ok (.iconst 4, 1) := by decide +kernel
theorem dX10_count_3 : decode cX10_count 3 = .ok (.invokestatic 69, 3) := by decide +kernel
theorem dX10_count_6 : decode cX10_count 6 = .ok (.ifCond .eq 11, 3) := by decide +kernel
theorem dX10_count_9 : decode cX10_count 9 = .ok (.aload_n 0, 1) := by decide +kernel
theorem dX10_count_10 : decode cX10_count 10 = .ok (.iload_n 1, 1) := by decide +kernel
theorem dX10_count_11 : decode cX10_count 11 = .ok (.invokevirtual 187, 3) := by decide +kernel
theorem dX10_count_14 : decode cX10_count 14 = .ok (.goto 6, 3) := by decide +kernel
theorem dX10_count_17 : decode cX10_count 17 = .ok (.sipush (-1001), 3) := by decide +kernel
theorem dX10_count_20 : decode cX10_count 20 = .ok (.ireturn, 1) := by decide +kernel
theorem dX10_countOf_0 : decode cX10_countOf 0 = .ok (.iload_n 1, 1) := by decide +kernel
theorem dX10_countOf_1 : decode cX10_countOf 1 = .ok (.ifCond .ne 10, 3) := by decide +kernel
theorem dX10_countOf_4 : decode cX10_countOf 4 = .ok (.aload_n 0, 1) := by decide +kernel
theorem dX10_countOf_5 : decode cX10_countOf 5 = .ok (.getfield 85, 3) := by decide +kernel
theorem dX10_countOf_8 : decode cX10_countOf 8 = .ok (.goto 9, 3) := by decide +kernel
theorem dX10_countOf_11 : decode cX10_countOf 11 = .ok (.aload_n 0, 1) := by decide +kernel
theorem dX10_countOf_12 : decode cX10_countOf 12 = .ok (.getfield 36, 3) := by decide +kernel
theorem dX10_countOf_15 : decode cX10_countOf 15 = .ok (.iload_n 1, 1) := by decide +kernel
theorem dX10_countOf_16 : decode cX10_countOf 16 = .ok (.iaload, 1) := by decide +kernel
theorem dX10_countOf_17 : decode cX10_countOf 17 = .ok (.ireturn, 1) := by decide +kernel
theorem dX10_dependents_0 : decode cX10_dependents 0 = .ok (.iconst 1, 1) := by decide +kernel
theorem dX10_dependents_1 : decode cX10_dependents 1 = .ok (.iload_n 1, 1) := by decide +kernel
theorem dX10_dependents_2 : decode cX10_dependents 2 = .ok (.ishl, 1) := by decide +kernel
theorem dX10_dependents_3 : decode cX10_dependents 3 = .ok (.istore_n 2, 1) := by decide +kernel
theorem dX10_dependents_4 : decode cX10_dependents 4 = .ok (.iconst 0, 1) := by decide +kernel
theorem dX10_dependents_5 : decode cX10_dependents 5 = .ok (.istore_n 3, 1) := by decide +kernel
theorem dX10_dependents_6 : decode cX10_dependents 6 = .ok (.iload_n 3, 1) := by decide +kernel
theorem dX10_dependents_7 : decode cX10_dependents 7 = .ok (.bipush 12, 2) := by decide +kernel
theorem dX10_dependents_9 : decode cX10_dependents 9 = .ok (.if_icmp .ge 86, 3) := by decide +kernel
theorem dX10_dependents_12 : decode cX10_dependents 12 = .ok (.iconst 0, 1) := by decide +kernel
theorem dX10_dependents_13 : decode cX10_dependents 13 = .ok (.istore 4, 2) := by decide +kernel
theorem dX10_dependents_15 : decode cX10_dependents 15 = .ok (.iload 4, 2) := by decide +kernel
theorem dX10_dependents_17 : decode cX10_dependents 17 = .ok (.aload_n 0, 1) := by decide +kernel
theorem dX10_dependents_18 : decode cX10_dependents 18 = .ok (.getfield 7, 3) := by decide +kernel
theorem dX10_dependents_21 : decode cX10_dependents 21 = .ok (.iconst 0, 1) := by decide +kernel
theorem dX10_dependents_22 : decode cX10_dependents 22 = .ok (.iaload, 1) := by decide +kernel
theorem dX10_dependents_23 : decode cX10_dependents 23 = .ok (.if_icmp .ge 66, 3) := by decide +kernel
theorem dX10_dependents_26 : decode cX10_dependents 26 = .ok (.iconst 0, 1) := by decide +kernel
theorem dX10_dependents_27 : decode cX10_dependents 27 = .ok (.istore 5, 2) := by decide +kernel
theorem dX10_dependents_29 : decode cX10_dependents 29 = .ok (.iload 5, 2) := by decide +kernel
theorem dX10_dependents_31 : decode cX10_dependents 31 = .ok (.iconst 3, 1) := by decide +kernel
theorem dX10_dependents_32 : decode cX10_dependents 32 = .ok (.if_icmp .ge 51, 3) := by decide +kernel
theorem dX10_dependents_35 : decode cX10_dependents 35 = .ok (.aload_n 0, 1) := by decide +kernel
theorem dX10_dependents_36 : decode cX10_dependents 36 = .ok (.getfield 7, 3) := by decide +kernel
theorem dX10_dependents_39 : decode cX10_dependents 39 = .ok (.iload 4, 2) := by decide +kernel
theorem dX10_dependents_41 : decode cX10_dependents 41 = .ok (.iconst 3, 1) := by decide +kernel
theorem dX10_dependents_42 : decode cX10_dependents 42 = .ok (.iload 5, 2) := by decide +kernel
theorem dX10_dependents_44 : decode cX10_dependents 44 = .ok (.iadd, 1) := by decide +kernel
theorem dX10_dependents_45 : decode cX10_dependents 45 = .ok (.invokestatic 73, 3) := by decide +kernel
theorem dX10_dependents_48 : decode cX10_dependents 48 = .ok (.iaload, 1) := by decide +kernel
theorem dX10_dependents_49 : decode cX10_dependents 49 = .ok (.istore 6, 2) := by decide +kernel
theorem dX10_dependents_51 : decode cX10_dependents 51 = .ok (.iload_n 2, 1) := by decide +kernel
theorem dX10_dependents_52 : decode cX10_dependents 52 = .ok (.iload 6, 2) := by decide +kernel
theorem dX10_dependents_54 : decode cX10_dependents 54 = .ok (.ifCond .lt 20, 3) := by decide +kernel
theorem dX10_dependents_57 : decode cX10_dependents 57 = .ok (.iload_n 2, 1) := by decide +kernel
theorem dX10_dependents_58 : decode cX10_dependents 58 = .ok (.iload 6, 2) := by decide +kernel
theorem dX10_dependents_60 : decode cX10_dependents 60 = .ok (.ishr, 1) := by decide +kernel
theorem dX10_dependents_61 : decode cX10_dependents 61 = .ok (.iconst 1, 1) := by decide +kernel
theorem dX10_dependents_62 : decode cX10_dependents 62 = .ok (.iand, 1) := by decide +kernel
theorem dX10_dependents_63 : decode cX10_dependents 63 = .ok (.iconst 1, 1) := by decide +kernel
theorem dX10_dependents_64 : decode cX10_dependents 64 = .ok (.if_icmp .ne 10, 3) := by decide +kernel
theorem dX10_dependents_67 : decode cX10_dependents 67 = .ok (.iconst 1, 1) := by decide +kernel
theorem dX10_dependents_68 : decode cX10_dependents 68 = .ok (.iload 4, 2) := by decide +kernel
theorem dX10_dependents_70 : decode cX10_dependents 70 = .ok (.ishl, 1) := by decide +kernel
theorem dX10_dependents_71 : decode cX10_dependents 71 = .ok (.goto 4, 3) := by decide +kernel
theorem dX10_dependents_74 : decode cX10_dependents 74 = .ok (.iconst 0, 1) := by decide +kernel
theorem dX10_dependents_75 : decode cX10_dependents 75 = .ok (.ior, 1) := by decide +kernel
theorem dX10_dependents_76 : decode cX10_dependents 76 = .ok (.istore_n 2, 1) := by decide +kernel
theorem dX10_dependents_77 : decode cX10_dependents 77 = .ok (.iinc 5 1, 3) := by decide +kernel
theorem dX10_dependents_80 : decode cX10_dependents 80 = .ok (.goto (-51), 3) := by decide +kernel
theorem dX10_dependents_83 : decode cX10_dependents 83 = .ok (.iinc 4 1, 3) := by decide +kernel
theorem dX10_dependents_86 : decode cX10_dependents 86 = .ok (.goto (-71), 3) := by decide +kernel
theorem dX10_dependents_89 : decode cX10_dependents 89 = .ok (.iinc 3 1, 3) := by decide +kernel
theorem dX10_dependents_92 : decode cX10_dependents 92 = .ok (.goto (-86), 3) := by decide +kernel
theorem dX10_dependents_95 : decode cX10_dependents 95 = .ok (.iload_n 2, 1) := by decide +kernel
theorem dX10_dependents_96 : decode cX10_dependents 96 = .ok (.ireturn, 1) := by decide +kernel
theorem dX10_depthOf_0 : decode cX10_depthOf 0 = .ok (.iconst 0, 1) := by decide +kernel
theorem dX10_depthOf_1 : decode cX10_depthOf 1 = .ok (.istore_n 2, 1) := by decide +kernel
theorem dX10_depthOf_2 : decode cX10_depthOf 2 = .ok (.iload_n 2, 1) := by decide +kernel
theorem dX10_depthOf_3 : decode cX10_depthOf 3 = .ok (.aload_n 0, 1) := by decide +kernel
theorem dX10_depthOf_4 : decode cX10_depthOf 4 = .ok (.getfield 7, 3) := by decide +kernel
theorem dX10_depthOf_7 : decode cX10_depthOf 7 = .ok (.iconst 0, 1) := by decide +kernel
theorem dX10_depthOf_8 : decode cX10_depthOf 8 = .ok (.iaload, 1) := by decide +kernel
theorem dX10_depthOf_9 : decode cX10_depthOf 9 = .ok (.if_icmp .ge 16, 3) := by decide +kernel
theorem dX10_depthOf_12 : decode cX10_depthOf 12 = .ok (.aload_n 0, 1) := by decide +kernel
theorem dX10_depthOf_13 : decode cX10_depthOf 13 = .ok (.getfield 48, 3) := by decide +kernel
theorem dX10_depthOf_16 : decode cX10_depthOf 16 = .ok (.iload_n 2, 1) := by decide +kernel
theorem dX10_depthOf_17 : decode cX10_depthOf 17 = .ok (.iconst 0, 1) := by decide +kernel
theorem dX10_depthOf_18 : decode cX10_depthOf 18 = .ok (.iastore, 1) := by decide +kernel
theorem dX10_depthOf_19 : decode cX10_depthOf 19 = .ok (.iinc 2 1, 3) := by decide +kernel
theorem dX10_depthOf_22 : decode cX10_depthOf 22 = .ok (.goto (-20), 3) := by decide +kernel
theorem dX10_depthOf_25 : decode cX10_depthOf 25 = .ok (.iconst 0, 1) := by decide +kernel
theorem dX10_depthOf_26 : decode cX10_depthOf 26 = .ok (.istore_n 2, 1) := by decide +kernel
theorem dX10_depthOf_27 : decode cX10_depthOf 27 = .ok (.iload_n 2, 1) := by decide +kernel
theorem dX10_depthOf_28 : decode cX10_depthOf 28 = .ok (.bipush 12, 2) := by decide +kernel
theorem dX10_depthOf_30 : decode cX10_depthOf 30 = .ok (.if_icmp .ge 102, 3) := by decide +kernel
theorem dX10_depthOf_33 : decode cX10_depthOf 33 = .ok (.iconst 0, 1) := by decide +kernel
theorem dX10_depthOf_34 : decode cX10_depthOf 34 = .ok (.istore_n 3, 1) := by decide +kernel
theorem dX10_depthOf_35 : decode cX10_depthOf 35 = .ok (.iload_n 3, 1) := by decide +kernel
theorem dX10_depthOf_36 : decode cX10_depthOf 36 = .ok (.aload_n 0, 1) := by decide +kernel
theorem dX10_depthOf_37 : decode cX10_depthOf 37 = .ok (.getfield 7, 3) := by decide +kernel
theorem dX10_depthOf_40 : decode cX10_depthOf 40 = .ok (.iconst 0, 1) := by decide +kernel
theorem dX10_depthOf_41 : decode cX10_depthOf 41 = .ok (.iaload, 1) := by decide +kernel
theorem dX10_depthOf_42 : decode cX10_depthOf 42 = .ok (.if_icmp .ge 84, 3) := by decide +kernel
theorem dX10_depthOf_45 : decode cX10_depthOf 45 = .ok (.iconst 0, 1) := by decide +kernel
theorem dX10_depthOf_46 : decode cX10_depthOf 46 = .ok (.istore 4, 2) := by decide +kernel
theorem dX10_depthOf_48 : decode cX10_depthOf 48 = .ok (.iload 4, 2) := by decide +kernel
theorem dX10_depthOf_50 : decode cX10_depthOf 50 = .ok (.iconst 3, 1) := by decide +kernel
theorem dX10_depthOf_51 : decode cX10_depthOf 51 = .ok (.if_icmp .ge 69, 3) := by decide +kernel
theorem dX10_depthOf_54 : decode cX10_depthOf 54 = .ok (.aload_n 0, 1) := by decide +kernel
theorem dX10_depthOf_55 : decode cX10_depthOf 55 = .ok (.getfield 7, 3) := by decide +kernel
theorem dX10_depthOf_58 : decode cX10_depthOf 58 = .ok (.iload_n 3, 1) := by decide +kernel
theorem dX10_depthOf_59 : decode cX10_depthOf 59 = .ok (.iconst 3, 1) := by decide +kernel
theorem dX10_depthOf_60 : decode cX10_depthOf 60 = .ok (.iload 4, 2) := by decide +kernel
theorem dX10_depthOf_62 : decode cX10_depthOf 62 = .ok (.iadd, 1) := by decide +kernel
theorem dX10_depthOf_63 : decode cX10_depthOf 63 = .ok (.invokestatic 73, 3) := by decide +kernel
theorem dX10_depthOf_66 : decode cX10_depthOf 66 = .ok (.iaload, 1) := by decide +kernel
theorem dX10_depthOf_67 : decode cX10_depthOf 67 = .ok (.istore 5, 2) := by decide +kernel
theorem dX10_depthOf_69 : decode cX10_depthOf 69 = .ok (.aload_n 0, 1) := by decide +kernel
theorem dX10_depthOf_70 : decode cX10_depthOf 70 = .ok (.getfield 48, 3) := by decide +kernel
theorem dX10_depthOf_73 : decode cX10_depthOf 73 = .ok (.iload_n 3, 1) := by decide +kernel
theorem dX10_depthOf_74 : decode cX10_depthOf 74 = .ok (.iload 5, 2) := by decide +kernel
theorem dX10_depthOf_76 : decode cX10_depthOf 76 = .ok (.ifCond .lt 31, 3) := by decide +kernel
theorem dX10_depthOf_79 : decode cX10_depthOf 79 = .ok (.aload_n 0, 1) := by decide +kernel
theorem dX10_depthOf_80 : decode cX10_depthOf 80 = .ok (.getfield 48, 3) := by decide +kernel
theorem dX10_depthOf_83 : decode cX10_depthOf 83 = .ok (.iload 5, 2) := by decide +kernel
theorem dX10_depthOf_85 : decode cX10_depthOf 85 = .ok (.iaload, 1) := by decide +kernel
theorem dX10_depthOf_86 : decode cX10_depthOf 86 = .ok (.aload_n 0, 1) := by decide +kernel
theorem dX10_depthOf_87 : decode cX10_depthOf 87 = .ok (.getfield 48, 3) := by decide +kernel
theorem dX10_depthOf_90 : decode cX10_depthOf 90 = .ok (.iload_n 3, 1) := by decide +kernel
theorem dX10_depthOf_91 : decode cX10_depthOf 91 = .ok (.iaload, 1) := by decide +kernel
theorem dX10_depthOf_92 : decode cX10_depthOf 92 = .ok (.if_icmp .lt 15, 3) := by decide +kernel
theorem dX10_depthOf_95 : decode cX10_depthOf 95 = .ok (.aload_n 0, 1) := by decide +kernel
theorem dX10_depthOf_96 : decode cX10_depthOf 96 = .ok (.getfield 48, 3) := by decide +kernel
theorem dX10_depthOf_99 : decode cX10_depthOf 99 = .ok (.iload 5, 2) := by decide +kernel
theorem dX10_depthOf_101 : decode cX10_depthOf 101 = .ok (.iaload, 1) := by decide +kernel
theorem dX10_depthOf_102 : decode cX10_depthOf 102 = .ok (.iconst 1, 1) := by decide +kernel
theorem dX10_depthOf_103 : decode cX10_depthOf 103 = .ok (.iadd, 1) := by decide +kernel
theorem dX10_depthOf_104 : decode cX10_depthOf 104 = .ok (.goto 9, 3) := by decide +kernel
theorem dX10_depthOf_107 : decode cX10_depthOf 107 = .ok (.aload_n 0, 1) := by decide +kernel
theorem dX10_depthOf_108 : decode cX10_depthOf 108 = .ok (.getfield 48, 3) := by decide +kernel
theorem dX10_depthOf_111 : decode cX10_depthOf 111 = .ok (.iload_n 3, 1) := by decide +kernel
theorem dX10_depthOf_112 : decode cX10_depthOf 112 = .ok (.iaload, 1) := by decide +kernel
theorem dX10_depthOf_113 : decode cX10_depthOf 113 = .ok (.iastore, 1) := by decide +kernel
theorem dX10_depthOf_114 : decode cX10_depthOf 114 = .ok (.iinc 4 1, 3) := by decide +kernel
theorem dX10_depthOf_117 : decode cX10_depthOf 117 = .ok (.goto (-69), 3) := by decide +kernel
theorem dX10_depthOf_120 : decode cX10_depthOf 120 = .ok (.iinc 3 1, 3) := by decide +kernel
theorem dX10_depthOf_123 : decode cX10_depthOf 123 = .ok (.goto (-88), 3) := by decide +kernel
theorem dX10_depthOf_126 : decode cX10_depthOf 126 = .ok (.iinc 2 1, 3) := by decide +kernel
theorem dX10_depthOf_129 : decode cX10_depthOf 129 = .ok (.goto (-102), 3) := by decide +kernel
theorem dX10_depthOf_132 : decode cX10_depthOf 132 = .ok (.aload_n 0, 1) := by decide +kernel
theorem dX10_depthOf_133 : decode cX10_depthOf 133 = .ok (.getfield 48, 3) := by decide +kernel
theorem dX10_depthOf_136 : decode cX10_depthOf 136 = .ok (.iload_n 1, 1) := by decide +kernel
theorem dX10_depthOf_137 : decode cX10_depthOf 137 = .ok (.iaload, 1) := by decide +kernel
theorem dX10_depthOf_138 : decode cX10_depthOf 138 = .ok (.ireturn, 1) := by decide +kernel
theorem dX10_drops_0 : decode cX10_drops 0 = .ok (.aload_n 0, 1) := by decide +kernel
theorem dX10_drops_1 : decode cX10_drops 1 = .ok (.dup, 1) := by decide +kernel
theorem dX10_drops_2 : decode cX10_drops 2 = .ok (.getfield 85, 3) := by decide +kernel
theorem dX10_drops_5 : decode cX10_drops 5 = .ok (.iconst 1, 1) := by decide +kernel
theorem dX10_drops_6 : decode cX10_drops 6 = .ok (.isub, 1) := by decide +kernel
theorem dX10_drops_7 : decode cX10_drops 7 = .ok (.putfield 85, 3) := by decide +kernel
theorem dX10_drops_10 : decode cX10_drops 10 = .ok (.aload_n 0, 1) := by decide +kernel
theorem dX10_drops_11 : decode cX10_drops 11 = .ok (.getfield 24, 3) := by decide +kernel
theorem dX10_drops_14 : decode cX10_drops 14 = .ok (.iload_n 1, 1) := by decide +kernel
theorem dX10_drops_15 : decode cX10_drops 15 = .ok (.aload_n 0, 1) := by decide +kernel
theorem dX10_drops_16 : decode cX10_drops 16 = .ok (.getfield 24, 3) := by decide +kernel
theorem dX10_drops_19 : decode cX10_drops 19 = .ok (.aload_n 0, 1) := by decide +kernel
theorem dX10_drops_20 : decode cX10_drops 20 = .ok (.getfield 85, 3) := by decide +kernel
theorem dX10_drops_23 : decode cX10_drops 23 = .ok (.iaload, 1) := by decide +kernel
theorem dX10_drops_24 : decode cX10_drops 24 = .ok (.iastore, 1) := by decide +kernel
theorem dX10_drops_25 : decode cX10_drops 25 = .ok (.aload_n 0, 1) := by decide +kernel
theorem dX10_drops_26 : decode cX10_drops 26 = .ok (.getfield 27, 3) := by decide +kernel
theorem dX10_drops_29 : decode cX10_drops 29 = .ok (.iload_n 1, 1) := by decide +kernel
theorem dX10_drops_30 : decode cX10_drops 30 = .ok (.aload_n 0, 1) := by decide +kernel
theorem dX10_drops_31 : decode cX10_drops 31 = .ok (.getfield 27, 3) := by decide +kernel
theorem dX10_drops_34 : decode cX10_drops 34 = .ok (.aload_n 0, 1) := by decide +kernel
theorem dX10_drops_35 : decode cX10_drops 35 = .ok (.getfield 85, 3) := by decide +kernel
theorem dX10_drops_38 : decode cX10_drops 38 = .ok (.iaload, 1) := by decide +kernel
theorem dX10_drops_39 : decode cX10_drops 39 = .ok (.iastore, 1) := by decide +kernel
theorem dX10_drops_40 : decode cX10_drops 40 = .ok (.aload_n 0, 1) := by decide +kernel
theorem dX10_drops_41 : decode cX10_drops 41 = .ok (.getfield 30, 3) := by decide +kernel
theorem dX10_drops_44 : decode cX10_drops 44 = .ok (.iload_n 1, 1) := by decide +kernel
theorem dX10_drops_45 : decode cX10_drops 45 = .ok (.aload_n 0, 1) := by decide +kernel
theorem dX10_drops_46 : decode cX10_drops 46 = .ok (.getfield 30, 3) := by decide +kernel
theorem dX10_drops_49 : decode cX10_drops 49 = .ok (.aload_n 0, 1) := by decide +kernel
theorem dX10_drops_50 : decode cX10_drops 50 = .ok (.getfield 85, 3) := by decide +kernel
theorem dX10_drops_53 : decode cX10_drops 53 = .ok (.iaload, 1) := by decide +kernel
theorem dX10_drops_54 : decode cX10_drops 54 = .ok (.iastore, 1) := by decide +kernel
theorem dX10_drops_55 : decode cX10_drops 55 = .ok (.iconst 0, 1) := by decide +kernel
theorem dX10_drops_56 : decode cX10_drops 56 = .ok (.istore_n 2, 1) := by decide +kernel
theorem dX10_drops_57 : decode cX10_drops 57 = .ok (.iload_n 2, 1) := by decide +kernel
theorem dX10_drops_58 : decode cX10_drops 58 = .ok (.bipush 96, 2) := by decide +kernel
theorem dX10_drops_60 : decode cX10_drops 60 = .ok (.if_icmp .ge 34, 3) := by decide +kernel
theorem dX10_drops_63 : decode cX10_drops 63 = .ok (.aload_n 0, 1) := by decide +kernel
theorem dX10_drops_64 : decode cX10_drops 64 = .ok (.getfield 33, 3) := by decide +kernel
theorem dX10_drops_67 : decode cX10_drops 67 = .ok (.bipush 96, 2) := by decide +kernel
theorem dX10_drops_69 : decode cX10_drops 69 = .ok (.iload_n 1, 1) := by decide +kernel
theorem dX10_drops_70 : decode cX10_drops 70 = .ok (.imul, 1) := by decide +kernel
theorem dX10_drops_71 : decode cX10_drops 71 = .ok (.iload_n 2, 1) := by decide +kernel
theorem dX10_drops_72 : decode cX10_drops 72 = .ok (.iadd, 1) := by decide +kernel
theorem dX10_drops_73 : decode cX10_drops 73 = .ok (.aload_n 0, 1) := by decide +kernel
theorem dX10_drops_74 : decode cX10_drops 74 = .ok (.getfield 33, 3) := by decide +kernel
theorem dX10_drops_77 : decode cX10_drops 77 = .ok (.bipush 96, 2) := by decide +kernel
theorem dX10_drops_79 : decode cX10_drops 79 = .ok (.aload_n 0, 1) := by decide +kernel
theorem dX10_drops_80 : decode cX10_drops 80 = .ok (.getfield 85, 3) := by decide +kernel
theorem dX10_drops_83 : decode cX10_drops 83 = .ok (.imul, 1) := by decide +kernel
theorem dX10_drops_84 : decode cX10_drops 84 = .ok (.iload_n 2, 1) := by decide +kernel
theorem dX10_drops_85 : decode cX10_drops 85 = .ok (.iadd, 1) := by decide +kernel
theorem dX10_drops_86 : decode cX10_drops 86 = .ok (.iaload, 1) := by decide +kernel
theorem dX10_drops_87 : decode cX10_drops 87 = .ok (.iastore, 1) := by decide +kernel
theorem dX10_drops_88 : decode cX10_drops 88 = .ok (.iinc 2 1, 3) := by decide +kernel
theorem dX10_drops_91 : decode cX10_drops 91 = .ok (.goto (-34), 3) := by decide +kernel
theorem dX10_drops_94 : decode cX10_drops 94 = .ok (.return_, 1) := by decide +kernel
theorem dX10_ends_0 : decode cX10_ends 0 = .ok (.iload_n 1, 1) := by decide +kernel
theorem dX10_ends_1 : decode cX10_ends 1 = .ok (.bipush 7, 2) := by decide +kernel
theorem dX10_ends_3 : decode cX10_ends 3 = .ok (.if_icmp .ne 55, 3) := by decide +kernel
theorem dX10_ends_6 : decode cX10_ends 6 = .ok (.aload_n 0, 1) := by decide +kernel
theorem dX10_ends_7 : decode cX10_ends 7 = .ok (.iconst 0, 1) := by decide +kernel
theorem dX10_ends_8 : decode cX10_ends 8 = .ok (.aload_n 0, 1) := by decide +kernel
theorem dX10_ends_9 : decode cX10_ends 9 = .ok (.getfield 7, 3) := by decide +kernel
theorem dX10_ends_12 : decode cX10_ends 12 = .ok (.iconst 0, 1) := by decide +kernel
theorem dX10_ends_13 : decode cX10_ends 13 = .ok (.iaload, 1) := by decide +kernel
theorem dX10_ends_14 : decode cX10_ends 14 = .ok (.iconst 1, 1) := by decide +kernel
theorem dX10_ends_15 : decode cX10_ends 15 = .ok (.isub, 1) := by decide +kernel
theorem dX10_ends_16 : decode cX10_ends 16 = .ok (.invokevirtual 212, 3) := by decide +kernel
theorem dX10_ends_19 : decode cX10_ends 19 = .ok (.ifCond .eq 12, 3) := by decide +kernel
theorem dX10_ends_22 : decode cX10_ends 22 = .ok (.aload_n 0, 1) := by decide +kernel
theorem dX10_ends_23 : decode cX10_ends 23 = .ok (.bipush 41, 2) := by decide +kernel
theorem dX10_ends_25 : decode cX10_ends 25 = .ok (.invokevirtual 214, 3) := by decide +kernel
theorem dX10_ends_28 : decode cX10_ends 28 = .ok (.ifCond .ne 5, 3) := by decide +kernel
theorem dX10_ends_31 : decode cX10_ends 31 = .ok (.iconst 0, 1) := by decide +kernel
theorem dX10_ends_32 : decode cX10_ends 32 = .ok (.ireturn, 1) := by decide +kernel
theorem dX10_ends_33 : decode cX10_ends 33 = .ok (.aload_n 0, 1) := by decide +kernel
theorem dX10_ends_34 : decode cX10_ends 34 = .ok (.getfield 66, 3) := by decide +kernel
theorem dX10_ends_37 : decode cX10_ends 37 = .ok (.aload_n 0, 1) := by decide +kernel
theorem dX10_ends_38 : decode cX10_ends 38 = .ok (.getfield 209, 3) := by decide +kernel
theorem dX10_ends_41 : decode cX10_ends 41 = .ok (.aload_n 0, 1) := by decide +kernel
theorem dX10_ends_42 : decode cX10_ends 42 = .ok (.getfield 203, 3) := by decide +kernel
theorem dX10_ends_45 : decode cX10_ends 45 = .ok (.iastore, 1) := by decide +kernel
theorem dX10_ends_46 : decode cX10_ends 46 = .ok (.aload_n 0, 1) := by decide +kernel
theorem dX10_ends_47 : decode cX10_ends 47 = .ok (.dup, 1) := by decide +kernel
theorem dX10_ends_48 : decode cX10_ends 48 = .ok (.getfield 209, 3) := by decide +kernel
theorem dX10_ends_51 : decode cX10_ends 51 = .ok (.iconst 1, 1) := by decide +kernel
theorem dX10_ends_52 : decode cX10_ends 52 = .ok (.iadd, 1) := by decide +kernel
theorem dX10_ends_53 : decode cX10_ends 53 = .ok (.putfield 209, 3) := by decide +kernel
theorem dX10_ends_56 : decode cX10_ends 56 = .ok (.iconst 1, 1) := by decide +kernel
theorem dX10_ends_57 : decode cX10_ends 57 = .ok (.ireturn, 1) := by decide +kernel
theorem dX10_ends_58 : decode cX10_ends 58 = .ok (.iconst 0, 1) := by decide +kernel
theorem dX10_ends_59 : decode cX10_ends 59 = .ok (.istore_n 2, 1) := by decide +kernel
theorem dX10_ends_60 : decode cX10_ends 60 = .ok (.iconst 0, 1) := by decide +kernel
theorem dX10_ends_61 : decode cX10_ends 61 = .ok (.istore_n 3, 1) := by decide +kernel
theorem dX10_ends_62 : decode cX10_ends 62 = .ok (.iconst 0, 1) := by decide +kernel
theorem dX10_ends_63 : decode cX10_ends 63 = .ok (.istore 4, 2) := by decide +kernel
theorem dX10_ends_65 : decode cX10_ends 65 = .ok (.iconst 0, 1) := by decide +kernel
theorem dX10_ends_66 : decode cX10_ends 66 = .ok (.istore 5, 2) := by decide +kernel
theorem dX10_ends_68 : decode cX10_ends 68 = .ok (.iload_n 1, 1) := by decide +kernel
theorem dX10_ends_69 : decode cX10_ends 69 = .ok (.iconst 5, 1) := by decide +kernel
theorem dX10_ends_70 : decode cX10_ends 70 = .ok (.if_icmp .ne 7, 3) := by decide +kernel
theorem dX10_ends_73 : decode cX10_ends 73 = .ok (.iconst 4, 1) := by decide +kernel
theorem dX10_ends_74 : decode cX10_ends 74 = .ok (.goto 19, 3) := by decide +kernel
theorem dX10_ends_77 : decode cX10_ends 77 = .ok (.iload_n 1, 1) := by decide +kernel
theorem dX10_ends_78 : decode cX10_ends 78 = .ok (.iconst 3, 1) := by decide +kernel
theorem dX10_ends_79 : decode cX10_ends 79 = .ok (.if_icmp .eq 9, 3) := by decide +kernel
theorem dX10_ends_82 : decode cX10_ends 82 = .ok (.iload_n 1, 1) := by decide +kernel
theorem dX10_ends_83 : decode cX10_ends 83 = .ok (.bipush 6, 2) := by decide +kernel
theorem dX10_ends_85 : decode cX10_ends 85 = .ok (.if_icmp .ne 7, 3) := by decide +kernel
theorem dX10_ends_88 : decode cX10_ends 88 = .ok (.iconst 0, 1) := by decide +kernel
theorem dX10_ends_89 : decode cX10_ends 89 = .ok (.goto 4, 3) := by decide +kernel
theorem dX10_ends_92 : decode cX10_ends 92 = .ok (.iconst 1, 1) := by decide +kernel
theorem dX10_ends_93 : decode cX10_ends 93 = .ok (.istore 6, 2) := by decide +kernel
theorem dX10_ends_95 : decode cX10_ends 95 = .ok (.iconst 0, 1) := by decide +kernel
theorem dX10_ends_96 : decode cX10_ends 96 = .ok (.istore 7, 2) := by decide +kernel
theorem dX10_ends_98 : decode cX10_ends 98 = .ok (.iload 7, 2) := by decide +kernel
theorem dX10_ends_100 : decode cX10_ends 100 = .ok (.iload 6, 2) := by decide +kernel
theorem dX10_ends_102 : decode cX10_ends 102 = .ok (.if_icmp .ge 144, 3) := by decide +kernel
theorem dX10_ends_105 : decode cX10_ends 105 = .ok (.iload_n 1, 1) := by decide +kernel
theorem dX10_ends_106 : decode cX10_ends 106 = .ok (.ifCond .eq 14, 3) := by decide +kernel
theorem dX10_ends_109 : decode cX10_ends 109 = .ok (.aload_n 0, 1) := by decide +kernel
theorem dX10_ends_110 : decode cX10_ends 110 = .ok (.bipush 44, 2) := by decide +kernel
theorem dX10_ends_112 : decode cX10_ends 112 = .ok (.invokevirtual 214, 3) := by decide +kernel
theorem dX10_ends_115 : decode cX10_ends 115 = .ok (.ifCond .ne 5, 3) := by decide +kernel
theorem dX10_ends_118 : decode cX10_ends 118 = .ok (.iconst 0, 1) := by decide +kernel
theorem dX10_ends_119 : decode cX10_ends 119 = .ok (.ireturn, 1) := by decide +kernel
theorem dX10_ends_120 : decode cX10_ends 120 = .ok (.iload_n 1, 1) := by decide +kernel
theorem dX10_ends_121 : decode cX10_ends 121 = .ok (.iconst 2, 1) := by decide +kernel
theorem dX10_ends_122 : decode cX10_ends 122 = .ok (.if_icmp .ne 16, 3) := by decide +kernel
theorem dX10_ends_125 : decode cX10_ends 125 = .ok (.aload_n 0, 1) := by decide +kernel
theorem dX10_ends_126 : decode cX10_ends 126 = .ok (.bipush 45, 2) := by decide +kernel
theorem dX10_ends_128 : decode cX10_ends 128 = .ok (.invokevirtual 214, 3) := by decide +kernel
theorem dX10_ends_131 : decode cX10_ends 131 = .ok (.ifCond .eq 7, 3) := by decide +kernel
theorem dX10_ends_134 : decode cX10_ends 134 = .ok (.iconst 1, 1) := by decide +kernel
theorem dX10_ends_135 : decode cX10_ends 135 = .ok (.goto 4, 3) := by decide +kernel
theorem dX10_ends_138 : decode cX10_ends 138 = .ok (.iconst 0, 1) := by decide +kernel
theorem dX10_ends_139 : decode cX10_ends 139 = .ok (.istore 8, 2) := by decide +kernel
theorem dX10_ends_141 : decode cX10_ends 141 = .ok (.aload_n 0, 1) := by decide +kernel
theorem dX10_ends_142 : decode cX10_ends 142 = .ok (.iload 8, 2) := by decide +kernel
theorem dX10_ends_144 : decode cX10_ends 144 = .ok (.ifCond .eq 7, 3) := by decide +kernel
theorem dX10_ends_147 : decode cX10_ends 147 = .ok (.iconst 1, 1) := by decide +kernel
theorem dX10_ends_148 : decode cX10_ends 148 = .ok (.goto 4, 3) := by decide +kernel
theorem dX10_ends_151 : decode cX10_ends 151 = .ok (.iconst 0, 1) := by decide +kernel
theorem dX10_ends_152 : decode cX10_ends 152 = .ok (.iload_n 1, 1) := by decide +kernel
theorem dX10_ends_153 : decode cX10_ends 153 = .ok (.iload 7, 2) := by decide +kernel
theorem dX10_ends_155 : decode cX10_ends 155 = .ok (.invokestatic 115, 3) := by decide +kernel
theorem dX10_ends_158 : decode cX10_ends 158 = .ok (.invokevirtual 212, 3) := by decide +kernel
theorem dX10_ends_161 : decode cX10_ends 161 = .ok (.ifCond .ne 5, 3) := by decide +kernel
theorem dX10_ends_164 : decode cX10_ends 164 = .ok (.iconst 0, 1) := by decide +kernel
theorem dX10_ends_165 : decode cX10_ends 165 = .ok (.ireturn, 1) := by decide +kernel
theorem dX10_ends_166 : decode cX10_ends 166 = .ok (.iload 8, 2) := by decide +kernel
theorem dX10_ends_168 : decode cX10_ends 168 = .ok (.ifCond .eq 11, 3) := by decide +kernel
theorem dX10_ends_171 : decode cX10_ends 171 = .ok (.aload_n 0, 1) := by decide +kernel
theorem dX10_ends_172 : decode cX10_ends 172 = .ok (.getfield 203, 3) := by decide +kernel
theorem dX10_ends_175 : decode cX10_ends 175 = .ok (.ineg, 1) := by decide +kernel
theorem dX10_ends_176 : decode cX10_ends 176 = .ok (.goto 7, 3) := by decide +kernel
theorem dX10_ends_179 : decode cX10_ends 179 = .ok (.aload_n 0, 1) := by decide +kernel
theorem dX10_ends_180 : decode cX10_ends 180 = .ok (.getfield 203, 3) := by decide +kernel
theorem dX10_ends_183 : decode cX10_ends 183 = .ok (.istore 9, 2) := by decide +kernel
theorem dX10_ends_185 : decode cX10_ends 185 = .ok (.iload 7, 2) := by decide +kernel
theorem dX10_ends_187 : decode cX10_ends 187 = .ok (.ifCond .ne 8, 3) := by decide +kernel
theorem dX10_ends_190 : decode cX10_ends 190 = .ok (.iload 9, 2) := by decide +kernel
theorem dX10_ends_192 : decode cX10_ends 192 = .ok (.goto 4, 3) := by decide +kernel
theorem dX10_ends_195 : decode cX10_ends 195 = .ok (.iload_n 2, 1) := by decide +kernel
theorem dX10_ends_196 : decode cX10_ends 196 = .ok (.istore_n 2, 1) := by decide +kernel
theorem dX10_ends_197 : decode cX10_ends 197 = .ok (.iload 7, 2) := by decide +kernel
theorem dX10_ends_199 : decode cX10_ends 199 = .ok (.iconst 1, 1) := by decide +kernel
theorem dX10_ends_200 : decode cX10_ends 200 = .ok (.if_icmp .ne 8, 3) := by decide +kernel
theorem dX10_ends_203 : decode cX10_ends 203 = .ok (.iload 9, 2) := by decide +kernel
theorem dX10_ends_205 : decode cX10_ends 205 = .ok (.goto 4, 3) := by decide +kernel
theorem dX10_ends_208 : decode cX10_ends 208 = .ok (.iload_n 3, 1) := by decide +kernel
theorem dX10_ends_209 : decode cX10_ends 209 = .ok (.istore_n 3, 1) := by decide +kernel
theorem dX10_ends_210 : decode cX10_ends 210 = .ok (.iload 7, 2) := by decide +kernel
theorem dX10_ends_212 : decode cX10_ends 212 = .ok (.iconst 2, 1) := by decide +kernel
theorem dX10_ends_213 : decode cX10_ends 213 = .ok (.if_icmp .ne 8, 3) := by decide +kernel
theorem dX10_ends_216 : decode cX10_ends 216 = .ok (.iload 9, 2) := by decide +kernel
theorem dX10_ends_218 : decode cX10_ends 218 = .ok (.goto 5, 3) := by decide +kernel
theorem dX10_ends_221 : decode cX10_ends 221 = .ok (.iload 4, 2) := by decide +kernel
theorem dX10_ends_223 : decode cX10_ends 223 = .ok (.istore 4, 2) := by decide +kernel
theorem dX10_ends_225 : decode cX10_ends 225 = .ok (.iload 7, 2) := by decide +kernel
theorem dX10_ends_227 : decode cX10_ends 227 = .ok (.iconst 3, 1) := by decide +kernel
theorem dX10_ends_228 : decode cX10_ends 228 = .ok (.if_icmp .ne 8, 3) := by decide +kernel
theorem dX10_ends_231 : decode cX10_ends 231 = .ok (.iload 9, 2) := by decide +kernel
theorem dX10_ends_233 : decode cX10_ends 233 = .ok (.goto 5, 3) := by decide +kernel
theorem dX10_ends_236 : decode cX10_ends 236 = .ok (.iload 5, 2) := by decide +kernel
theorem dX10_ends_238 : decode cX10_ends 238 = .ok (.istore 5, 2) := by decide +kernel
theorem dX10_ends_240 : decode cX10_ends 240 = .ok (.iinc 7 1, 3) := by decide +kernel
theorem dX10_ends_243 : decode cX10_ends 243 = .ok (.goto (-145), 3) := by decide +kernel
theorem dX10_ends_246 : decode cX10_ends 246 = .ok (.aload_n 0, 1) := by decide +kernel
theorem dX10_ends_247 : decode cX10_ends 247 = .ok (.bipush 41, 2) := by decide +kernel
theorem dX10_ends_249 : decode cX10_ends 249 = .ok (.invokevirtual 214, 3) := by decide +kernel
theorem dX10_ends_252 : decode cX10_ends 252 = .ok (.ifCond .ne 5, 3) := by decide +kernel
theorem dX10_ends_255 : decode cX10_ends 255 = .ok (.iconst 0, 1) := by decide +kernel
theorem dX10_ends_256 : decode cX10_ends 256 = .ok (.ireturn, 1) := by decide +kernel
theorem dX10_ends_257 : decode cX10_ends 257 = .ok (.aload_n 0, 1) := by decide +kernel
theorem dX10_ends_258 : decode cX10_ends 258 = .ok (.iload_n 1, 1) := by decide +kernel
theorem dX10_ends_259 : decode cX10_ends 259 = .ok (.invokevirtual 217, 3) := by decide +kernel
theorem dX10_ends_262 : decode cX10_ends 262 = .ok (.bipush 8, 2) := by decide +kernel
theorem dX10_ends_264 : decode cX10_ends 264 = .ok (.aload_n 0, 1) := by decide +kernel
theorem dX10_ends_265 : decode cX10_ends 265 = .ok (.getfield 206, 3) := by decide +kernel
theorem dX10_ends_268 : decode cX10_ends 268 = .ok (.imul, 1) := by decide +kernel
theorem dX10_ends_269 : decode cX10_ends 269 = .ok (.iconst 4, 1) := by decide +kernel
theorem dX10_ends_270 : decode cX10_ends 270 = .ok (.isub, 1) := by decide +kernel
theorem dX10_ends_271 : decode cX10_ends 271 = .ok (.istore 7, 2) := by decide +kernel
theorem dX10_ends_273 : decode cX10_ends 273 = .ok (.iload_n 1, 1) := by decide +kernel
theorem dX10_ends_274 : decode cX10_ends 274 = .ok (.iconst 1, 1) := by decide +kernel
theorem dX10_ends_275 : decode cX10_ends 275 = .ok (.if_icmp .eq 8, 3) := by decide +kernel
theorem dX10_ends_278 : decode cX10_ends 278 = .ok (.iload_n 1, 1) := by decide +kernel
theorem dX10_ends_279 : decode cX10_ends 279 = .ok (.iconst 2, 1) := by decide +kernel
theorem dX10_ends_280 : decode cX10_ends 280 = .ok (.if_icmp .ne 7, 3) := by decide +kernel
theorem dX10_ends_283 : decode cX10_ends 283 = .ok (.iconst 1, 1) := by decide +kernel
theorem dX10_ends_284 : decode cX10_ends 284 = .ok (.goto 4, 3) := by decide +kernel
theorem dX10_ends_287 : decode cX10_ends 287 = .ok (.iconst 0, 1) := by decide +kernel
theorem dX10_ends_288 : decode cX10_ends 288 = .ok (.istore 8, 2) := by decide +kernel
theorem dX10_ends_290 : decode cX10_ends 290 = .ok (.aload_n 0, 1) := by decide +kernel
theorem dX10_ends_291 : decode cX10_ends 291 = .ok (.getfield 63, 3) := by decide +kernel
theorem dX10_ends_294 : decode cX10_ends 294 = .ok (.iload 7, 2) := by decide +kernel
theorem dX10_ends_296 : decode cX10_ends 296 = .ok (.iload 6, 2) := by decide +kernel
theorem dX10_ends_298 : decode cX10_ends 298 = .ok (.ifCond .le 7, 3) := by decide +kernel
theorem dX10_ends_301 : decode cX10_ends 301 = .ok (.iload_n 2, 1) := by decide +kernel
theorem dX10_ends_302 : decode cX10_ends 302 = .ok (.goto 10, 3) := by decide +kernel
theorem dX10_ends_305 : decode cX10_ends 305 = .ok (.aload_n 0, 1) := by decide +kernel
theorem dX10_ends_306 : decode cX10_ends 306 = .ok (.getfield 63, 3) := by decide +kernel
theorem dX10_ends_309 : decode cX10_ends 309 = .ok (.iload 7, 2) := by decide +kernel
theorem dX10_ends_311 : decode cX10_ends 311 = .ok (.iaload, 1) := by decide +kernel
theorem dX10_ends_312 : decode cX10_ends 312 = .ok (.iastore, 1) := by decide +kernel
theorem dX10_ends_313 : decode cX10_ends 313 = .ok (.aload_n 0, 1) := by decide +kernel
theorem dX10_ends_314 : decode cX10_ends 314 = .ok (.getfield 63, 3) := by decide +kernel
theorem dX10_ends_317 : decode cX10_ends 317 = .ok (.iload 7, 2) := by decide +kernel
theorem dX10_ends_319 : decode cX10_ends 319 = .ok (.iconst 1, 1) := by decide +kernel
theorem dX10_ends_320 : decode cX10_ends 320 = .ok (.iadd, 1) := by decide +kernel
theorem dX10_ends_321 : decode cX10_ends 321 = .ok (.iload 8, 2) := by decide +kernel
theorem dX10_ends_323 : decode cX10_ends 323 = .ok (.ifCond .eq 7, 3) := by decide +kernel
theorem dX10_ends_326 : decode cX10_ends 326 = .ok (.iload_n 2, 1) := by decide +kernel
theorem dX10_ends_327 : decode cX10_ends 327 = .ok (.goto 22, 3) := by decide +kernel
theorem dX10_ends_330 : decode cX10_ends 330 = .ok (.iload 6, 2) := by decide +kernel
theorem dX10_ends_332 : decode cX10_ends 332 = .ok (.iconst 1, 1) := by decide +kernel
theorem dX10_ends_333 : decode cX10_ends 333 = .ok (.if_icmp .le 7, 3) := by decide +kernel
theorem dX10_ends_336 : decode cX10_ends 336 = .ok (.iload_n 3, 1) := by decide +kernel
theorem dX10_ends_337 : decode cX10_ends 337 = .ok (.goto 12, 3) := by decide +kernel
theorem dX10_ends_340 : decode cX10_ends 340 = .ok (.aload_n 0, 1) := by decide +kernel
theorem dX10_ends_341 : decode cX10_ends 341 = .ok (.getfield 63, 3) := by decide +kernel
theorem dX10_ends_344 : decode cX10_ends 344 = .ok (.iload 7, 2) := by decide +kernel
theorem dX10_ends_346 : decode cX10_ends 346 = .ok (.iconst 1, 1) := by decide +kernel
theorem dX10_ends_347 : decode cX10_ends 347 = .ok (.iadd, 1) := by decide +kernel
theorem dX10_ends_348 : decode cX10_ends 348 = .ok (.iaload, 1) := by decide +kernel
theorem dX10_ends_349 : decode cX10_ends 349 = .ok (.iastore, 1) := by decide +kernel
theorem dX10_ends_350 : decode cX10_ends 350 = .ok (.aload_n 0, 1) := by decide +kernel
theorem dX10_ends_351 : decode cX10_ends 351 = .ok (.getfield 63, 3) := by decide +kernel
theorem dX10_ends_354 : decode cX10_ends 354 = .ok (.iload 7, 2) := by decide +kernel
theorem dX10_ends_356 : decode cX10_ends 356 = .ok (.iconst 2, 1) := by decide +kernel
theorem dX10_ends_357 : decode cX10_ends 357 = .ok (.iadd, 1) := by decide +kernel
theorem dX10_ends_358 : decode cX10_ends 358 = .ok (.iload 8, 2) := by decide +kernel
theorem dX10_ends_360 : decode cX10_ends 360 = .ok (.ifCond .eq 7, 3) := by decide +kernel
theorem dX10_ends_363 : decode cX10_ends 363 = .ok (.iload_n 2, 1) := by decide +kernel
theorem dX10_ends_364 : decode cX10_ends 364 = .ok (.goto 23, 3) := by decide +kernel
theorem dX10_ends_367 : decode cX10_ends 367 = .ok (.iload 6, 2) := by decide +kernel
theorem dX10_ends_369 : decode cX10_ends 369 = .ok (.iconst 1, 1) := by decide +kernel
theorem dX10_ends_370 : decode cX10_ends 370 = .ok (.if_icmp .le 8, 3) := by decide +kernel
theorem dX10_ends_373 : decode cX10_ends 373 = .ok (.iload 4, 2) := by decide +kernel
theorem dX10_ends_375 : decode cX10_ends 375 = .ok (.goto 12, 3) := by decide +kernel
theorem dX10_ends_378 : decode cX10_ends 378 = .ok (.aload_n 0, 1) := by decide +kernel
theorem dX10_ends_379 : decode cX10_ends 379 = .ok (.getfield 63, 3) := by decide +kernel
theorem dX10_ends_382 : decode cX10_ends 382 = .ok (.iload 7, 2) := by decide +kernel
theorem dX10_ends_384 : decode cX10_ends 384 = .ok (.iconst 2, 1) := by decide +kernel
theorem dX10_ends_385 : decode cX10_ends 385 = .ok (.iadd, 1) := by decide +kernel
theorem dX10_ends_386 : decode cX10_ends 386 = .ok (.iaload, 1) := by decide +kernel
theorem dX10_ends_387 : decode cX10_ends 387 = .ok (.iastore, 1) := by decide +kernel
theorem dX10_ends_388 : decode cX10_ends 388 = .ok (.aload_n 0, 1) := by decide +kernel
theorem dX10_ends_389 : decode cX10_ends 389 = .ok (.getfield 63, 3) := by decide +kernel
theorem dX10_ends_392 : decode cX10_ends 392 = .ok (.iload 7, 2) := by decide +kernel
theorem dX10_ends_394 : decode cX10_ends 394 = .ok (.iconst 3, 1) := by decide +kernel
theorem dX10_ends_395 : decode cX10_ends 395 = .ok (.iadd, 1) := by decide +kernel
theorem dX10_ends_396 : decode cX10_ends 396 = .ok (.iload 6, 2) := by decide +kernel
theorem dX10_ends_398 : decode cX10_ends 398 = .ok (.iconst 1, 1) := by decide +kernel
theorem dX10_ends_399 : decode cX10_ends 399 = .ok (.if_icmp .le 8, 3) := by decide +kernel
theorem dX10_ends_402 : decode cX10_ends 402 = .ok (.iload 5, 2) := by decide +kernel
theorem dX10_ends_404 : decode cX10_ends 404 = .ok (.goto 12, 3) := by decide +kernel
theorem dX10_ends_407 : decode cX10_ends 407 = .ok (.aload_n 0, 1) := by decide +kernel
theorem dX10_ends_408 : decode cX10_ends 408 = .ok (.getfield 63, 3) := by decide +kernel
theorem dX10_ends_411 : decode cX10_ends 411 = .ok (.iload 7, 2) := by decide +kernel
theorem dX10_ends_413 : decode cX10_ends 413 = .ok (.iconst 3, 1) := by decide +kernel
theorem dX10_ends_414 : decode cX10_ends 414 = .ok (.iadd, 1) := by decide +kernel
theorem dX10_ends_415 : decode cX10_ends 415 = .ok (.iaload, 1) := by decide +kernel
theorem dX10_ends_416 : decode cX10_ends 416 = .ok (.iastore, 1) := by decide +kernel
theorem dX10_ends_417 : decode cX10_ends 417 = .ok (.iconst 1, 1) := by decide +kernel
theorem dX10_ends_418 : decode cX10_ends 418 = .ok (.ireturn, 1) := by decide +kernel
theorem dX10_faultDepth_0 : decode cX10_faultDepth 0 = .ok (.aload_n 0, 1) := by decide +kernel
theorem dX10_faultDepth_1 : decode cX10_faultDepth 1 = .ok (.invokevirtual 232, 3) := by decide +kernel
theorem dX10_faultDepth_4 : decode cX10_faultDepth 4 = .ok (.ifCond .eq 9, 3) := by decide +kernel
theorem dX10_faultDepth_7 : decode cX10_faultDepth 7 = .ok (.sipush (-1005), 3) := by decide +kernel
theorem dX10_faultDepth_10 : decode cX10_faultDepth 10 = .ok (.goto 7, 3) := by decide +kernel
theorem dX10_faultDepth_13 : decode cX10_faultDepth 13 = .ok (.aload_n 0, 1) := by decide +kernel
theorem dX10_faultDepth_14 : decode cX10_faultDepth 14 = .ok (.getfield 223, 3) := by decide +kernel
theorem dX10_faultDepth_17 : decode cX10_faultDepth 17 = .ok (.ireturn, 1) := by decide +kernel
theorem dX10_faultPosition_0 : decode cX10_faultPosition 0 = .ok (.aload_n 0, 1) := by decide +kernel
theorem dX10_faultPosition_1 : decode cX10_faultPosition 1 = .ok (.invokevirtual 232, 3) := by decide +kernel
theorem dX10_faultPosition_4 : decode cX10_faultPosition 4 = .ok (.ifCond .eq 9, 3) := by decide +kernel
theorem dX10_faultPosition_7 : decode cX10_faultPosition 7 = .ok (.sipush (-1005), 3) := by decide +kernel
theorem dX10_faultPosition_10 : decode cX10_faultPosition 10 = .ok (.goto 7, 3) := by decide +kernel
theorem dX10_faultPosition_13 : decode cX10_faultPosition 13 = .ok (.aload_n 0, 1) := by decide +kernel
theorem dX10_faultPosition_14 : decode cX10_faultPosition 14 = .ok (.getfield 193, 3) := by decide +kernel
theorem dX10_faultPosition_17 : decode cX10_faultPosition 17 = .ok (.ireturn, 1) := by decide +kernel
theorem dX10_find_0 : decode cX10_find 0 = .ok (.iconst 0, 1) := by decide +kernel
theorem dX10_find_1 : decode cX10_find 1 = .ok (.istore_n 3, 1) := by decide +kernel
theorem dX10_find_2 : decode cX10_find 2 = .ok (.iload_n 3, 1) := by decide +kernel
theorem dX10_find_3 : decode cX10_find 3 = .ok (.aload_n 0, 1) := by decide +kernel
theorem dX10_find_4 : decode cX10_find 4 = .ok (.getfield 85, 3) := by decide +kernel
theorem dX10_find_7 : decode cX10_find 7 = .ok (.if_icmp .ge 31, 3) := by decide +kernel
theorem dX10_find_10 : decode cX10_find 10 = .ok (.aload_n 0, 1) := by decide +kernel
theorem dX10_find_11 : decode cX10_find 11 = .ok (.getfield 24, 3) := by decide +kernel
theorem dX10_find_14 : decode cX10_find 14 = .ok (.iload_n 3, 1) := by decide +kernel
theorem dX10_find_15 : decode cX10_find 15 = .ok (.iaload, 1) := by decide +kernel
theorem dX10_find_16 : decode cX10_find 16 = .ok (.iload_n 1, 1) := by decide +kernel
theorem dX10_find_17 : decode cX10_find 17 = .ok (.if_icmp .ne 15, 3) := by decide +kernel
theorem dX10_find_20 : decode cX10_find 20 = .ok (.aload_n 0, 1) := by decide +kernel
theorem dX10_find_21 : decode cX10_find 21 = .ok (.getfield 27, 3) := by decide +kernel
theorem dX10_find_24 : decode cX10_find 24 = .ok (.iload_n 3, 1) := by decide +kernel
theorem dX10_find_25 : decode cX10_find 25 = .ok (.iaload, 1) := by decide +kernel
theorem dX10_find_26 : decode cX10_find 26 = .ok (.iload_n 2, 1) := by decide +kernel
theorem dX10_find_27 : decode cX10_find 27 = .ok (.if_icmp .ne 5, 3) := by decide +kernel
theorem dX10_find_30 : decode cX10_find 30 = .ok (.iload_n 3, 1) := by decide +kernel
theorem dX10_find_31 : decode cX10_find 31 = .ok (.ireturn, 1) := by decide +kernel
theorem dX10_find_32 : decode cX10_find 32 = .ok (.iinc 3 1, 3) := by decide +kernel
theorem dX10_find_35 : decode cX10_find 35 = .ok (.goto (-33), 3) := by decide +kernel
theorem dX10_find_38 : decode cX10_find 38 = .ok (.iconst (-1), 1) := by decide +kernel
theorem dX10_find_39 : decode cX10_find 39 = .ok (.ireturn, 1) := by decide +kernel
theorem dX10_first_0 : decode cX10_first 0 = .ok (.iload_n 0, 1) := by decide +kernel
theorem dX10_first_1 : decode cX10_first 1 = .ok (.iconst 1, 1) := by decide +kernel
theorem dX10_first_2 : decode cX10_first 2 = .ok (.if_icmp .ne 8, 3) := by decide +kernel
theorem dX10_first_5 : decode cX10_first 5 = .ok (.bipush 16, 2) := by decide +kernel
theorem dX10_first_7 : decode cX10_first 7 = .ok (.goto 29, 3) := by decide +kernel
theorem dX10_first_10 : decode cX10_first 10 = .ok (.iload_n 0, 1) := by decide +kernel
theorem dX10_first_11 : decode cX10_first 11 = .ok (.iconst 4, 1) := by decide +kernel
theorem dX10_first_12 : decode cX10_first 12 = .ok (.if_icmp .ne 7, 3) := by decide +kernel
theorem dX10_first_15 : decode cX10_first 15 = .ok (.iconst 1, 1) := by decide +kernel
theorem dX10_first_16 : decode cX10_first 16 = .ok (.goto 20, 3) := by decide +kernel
theorem dX10_first_19 : decode cX10_first 19 = .ok (.iload_n 0, 1) := by decide +kernel
theorem dX10_first_20 : decode cX10_first 20 = .ok (.iconst 5, 1) := by decide +kernel
theorem dX10_first_21 : decode cX10_first 21 = .ok (.if_icmp .ne 14, 3) := by decide +kernel
theorem dX10_first_24 : decode cX10_first 24 = .ok (.iload_n 1, 1) := by decide +kernel
theorem dX10_first_25 : decode cX10_first 25 = .ok (.iconst 2, 1) := by decide +kernel
theorem dX10_first_26 : decode cX10_first 26 = .ok (.if_icmp .ne 9, 3) := by decide +kernel
theorem dX10_first_29 : decode cX10_first 29 = .ok (.sipush 255, 3) := by decide +kernel
theorem dX10_first_32 : decode cX10_first 32 = .ok (.goto 4, 3) := by decide +kernel
theorem dX10_first_35 : decode cX10_first 35 = .ok (.iconst 0, 1) := by decide +kernel
theorem dX10_first_36 : decode cX10_first 36 = .ok (.ireturn, 1) := by decide +kernel
theorem dX10_here_0 : decode cX10_here 0 = .ok (.aload_n 0, 1) := by decide +kernel
theorem dX10_here_1 : decode cX10_here 1 = .ok (.getfield 193, 3) := by decide +kernel
theorem dX10_here_4 : decode cX10_here 4 = .ok (.aload_n 0, 1) := by decide +kernel
theorem dX10_here_5 : decode cX10_here 5 = .ok (.getfield 190, 3) := by decide +kernel
theorem dX10_here_8 : decode cX10_here 8 = .ok (.if_icmp .ge 15, 3) := by decide +kernel
theorem dX10_here_11 : decode cX10_here 11 = .ok (.aload_n 0, 1) := by decide +kernel
theorem dX10_here_12 : decode cX10_here 12 = .ok (.getfield 39, 3) := by decide +kernel
theorem dX10_here_15 : decode cX10_here 15 = .ok (.aload_n 0, 1) := by decide +kernel
theorem dX10_here_16 : decode cX10_here 16 = .ok (.getfield 193, 3) := by decide +kernel
theorem dX10_here_19 : decode cX10_here 19 = .ok (.iaload, 1) := by decide +kernel
theorem dX10_here_20 : decode cX10_here 20 = .ok (.goto 4, 3) := by decide +kernel
theorem dX10_here_23 : decode cX10_here 23 = .ok (.iconst (-1), 1) := by decide +kernel
theorem dX10_here_24 : decode cX10_here 24 = .ok (.ireturn, 1) := by decide +kernel
theorem dX10_high_0 : decode cX10_high 0 = .ok (.iload_n 0, 1) := by decide +kernel
theorem dX10_high_1 : decode cX10_high 1 = .ok (.tableswitch 70 0 5 #[39, 43, 70, 70, 46, 48], 39) := by decide +kernel
theorem dX10_high_40 : decode cX10_high 40 = .ok (.sipush 999, 3) := by decide +kernel
theorem dX10_high_43 : decode cX10_high 43 = .ok (.ireturn, 1) := by decide +kernel
theorem dX10_high_44 : decode cX10_high 44 = .ok (.bipush 64, 2) := by decide +kernel
theorem dX10_high_46 : decode cX10_high 46 = .ok (.ireturn, 1) := by decide +kernel
theorem dX10_high_47 : decode cX10_high 47 = .ok (.iconst 3, 1) := by decide +kernel
theorem dX10_high_48 : decode cX10_high 48 = .ok (.ireturn, 1) := by decide +kernel
theorem dX10_high_49 : decode cX10_high 49 = .ok (.iload_n 1, 1) := by decide +kernel
theorem dX10_high_50 : decode cX10_high 50 = .ok (.ifCond .ne 7, 3) := by decide +kernel
theorem dX10_high_53 : decode cX10_high 53 = .ok (.iconst 2, 1) := by decide +kernel
theorem dX10_high_54 : decode cX10_high 54 = .ok (.goto 16, 3) := by decide +kernel
theorem dX10_high_57 : decode cX10_high 57 = .ok (.iload_n 1, 1) := by decide +kernel
theorem dX10_high_58 : decode cX10_high 58 = .ok (.iconst 3, 1) := by decide +kernel
theorem dX10_high_59 : decode cX10_high 59 = .ok (.if_icmp .ne 8, 3) := by decide +kernel
theorem dX10_high_62 : decode cX10_high 62 = .ok (.bipush 99, 2) := by decide +kernel
theorem dX10_high_64 : decode cX10_high 64 = .ok (.goto 6, 3) := by decide +kernel
theorem dX10_high_67 : decode cX10_high 67 = .ok (.sipush 255, 3) := by decide +kernel
theorem dX10_high_70 : decode cX10_high 70 = .ok (.ireturn, 1) := by decide +kernel
theorem dX10_high_71 : decode cX10_high 71 = .ok (.sipush 255, 3) := by decide +kernel
theorem dX10_high_74 : decode cX10_high 74 = .ok (.ireturn, 1) := by decide +kernel
theorem dX10_in_0 : decode cX10_in 0 = .ok (.iload_n 0, 1) := by decide +kernel
theorem dX10_in_1 : decode cX10_in 1 = .ok (.iload_n 1, 1) := by decide +kernel
theorem dX10_in_2 : decode cX10_in 2 = .ok (.if_icmp .lt 12, 3) := by decide +kernel
theorem dX10_in_5 : decode cX10_in 5 = .ok (.iload_n 0, 1) := by decide +kernel
theorem dX10_in_6 : decode cX10_in 6 = .ok (.iload_n 2, 1) := by decide +kernel
theorem dX10_in_7 : decode cX10_in 7 = .ok (.if_icmp .gt 7, 3) := by decide +kernel
theorem dX10_in_10 : decode cX10_in 10 = .ok (.iconst 1, 1) := by decide +kernel
theorem dX10_in_11 : decode cX10_in 11 = .ok (.goto 4, 3) := by decide +kernel
theorem dX10_in_14 : decode cX10_in 14 = .ok (.iconst 0, 1) := by decide +kernel
theorem dX10_in_15 : decode cX10_in 15 = .ok (.ireturn, 1) := by decide +kernel
theorem dX10_init_0 : decode cX10_init 0 = .ok (.aload_n 0, 1) := by decide +kernel
theorem dX10_init_1 : decode cX10_init 1 = .ok (.invokespecial 1, 3) := by decide +kernel
theorem dX10_init_4 : decode cX10_init 4 = .ok (.aload_n 0, 1) := by decide +kernel
theorem dX10_init_5 : decode cX10_init 5 = .ok (.bipush 121, 2) := by decide +kernel
theorem dX10_init_7 : decode cX10_init 7 = .ok (.newarray .int, 2) := by decide +kernel
theorem dX10_init_9 : decode cX10_init 9 = .ok (.putfield 7, 3) := by decide +kernel
theorem dX10_init_12 : decode cX10_init 12 = .ok (.aload_n 0, 1) := by decide +kernel
theorem dX10_init_13 : decode cX10_init 13 = .ok (.sipush 242, 3) := by decide +kernel
theorem dX10_init_16 : decode cX10_init 16 = .ok (.newarray .int, 2) := by decide +kernel
theorem dX10_init_18 : decode cX10_init 18 = .ok (.putfield 13, 3) := by decide +kernel
theorem dX10_init_21 : decode cX10_init 21 = .ok (.aload_n 0, 1) := by decide +kernel
theorem dX10_init_22 : decode cX10_init 22 = .ok (.iconst 2, 1) := by decide +kernel
theorem dX10_init_23 : decode cX10_init 23 = .ok (.newarray .boolean, 2) := by decide +kernel
theorem dX10_init_25 : decode cX10_init 25 = .ok (.putfield 16, 3) := by decide +kernel
theorem dX10_init_28 : decode cX10_init 28 = .ok (.aload_n 0, 1) := by decide +kernel
theorem dX10_init_29 : decode cX10_init 29 = .ok (.bipush 16, 2) := by decide +kernel
theorem dX10_init_31 : decode cX10_init 31 = .ok (.putfield 20, 3) := by decide +kernel
theorem dX10_init_34 : decode cX10_init 34 = .ok (.aload_n 0, 1) := by decide +kernel
theorem dX10_init_35 : decode cX10_init 35 = .ok (.bipush 48, 2) := by decide +kernel
theorem dX10_init_37 : decode cX10_init 37 = .ok (.newarray .int, 2) := by decide +kernel
theorem dX10_init_39 : decode cX10_init 39 = .ok (.putfield 24, 3) := by decide +kernel
theorem dX10_init_42 : decode cX10_init 42 = .ok (.aload_n 0, 1) := by decide +kernel
theorem dX10_init_43 : decode cX10_init 43 = .ok (.bipush 48, 2) := by decide +kernel
theorem dX10_init_45 : decode cX10_init 45 = .ok (.newarray .int, 2) := by decide +kernel
theorem dX10_init_47 : decode cX10_init 47 = .ok (.putfield 27, 3) := by decide +kernel
theorem dX10_init_50 : decode cX10_init 50 = .ok (.aload_n 0, 1) := by decide +kernel
theorem dX10_init_51 : decode cX10_init 51 = .ok (.bipush 48, 2) := by decide +kernel
theorem dX10_init_53 : decode cX10_init 53 = .ok (.newarray .int, 2) := by decide +kernel
theorem dX10_init_55 : decode cX10_init 55 = .ok (.putfield 30, 3) := by decide +kernel
theorem dX10_init_58 : decode cX10_init 58 = .ok (.aload_n 0, 1) := by decide +kernel
theorem dX10_init_59 : decode cX10_init 59 = .ok (.sipush 4608, 3) := by decide +kernel
theorem dX10_init_62 : decode cX10_init 62 = .ok (.newarray .int, 2) := by decide +kernel
theorem dX10_init_64 : decode cX10_init 64 = .ok (.putfield 33, 3) := by decide +kernel
theorem dX10_init_67 : decode cX10_init 67 = .ok (.aload_n 0, 1) := by decide +kernel
theorem dX10_init_68 : decode cX10_init 68 = .ok (.iconst 5, 1) := by decide +kernel
theorem dX10_init_69 : decode cX10_init 69 = .ok (.newarray .int, 2) := by decide +kernel
theorem dX10_init_71 : decode cX10_init 71 = .ok (.putfield 36, 3) := by decide +kernel
theorem dX10_init_74 : decode cX10_init 74 = .ok (.aload_n 0, 1) := by decide +kernel
theorem dX10_init_75 : decode cX10_init 75 = .ok (.bipush 80, 2) := by decide +kernel
theorem dX10_init_77 : decode cX10_init 77 = .ok (.newarray .int, 2) := by decide +kernel
theorem dX10_init_79 : decode cX10_init 79 = .ok (.putfield 39, 3) := by decide +kernel
theorem dX10_init_82 : decode cX10_init 82 = .ok (.aload_n 0, 1) := by decide +kernel
theorem dX10_init_83 : decode cX10_init 83 = .ok (.bipush 7, 2) := by decide +kernel
theorem dX10_init_85 : decode cX10_init 85 = .ok (.newarray .int, 2) := by decide +kernel
theorem dX10_init_87 : decode cX10_init 87 = .ok (.dup, 1) := by decide +kernel
theorem dX10_init_88 : decode cX10_init 88 = .ok (.iconst 0, 1) := by decide +kernel
theorem dX10_init_89 : decode cX10_init 89 = .ok (.iconst 0, 1) := by decide +kernel
theorem dX10_init_90 : decode cX10_init 90 = .ok (.iastore, 1) := by decide +kernel
theorem dX10_init_91 : decode cX10_init 91 = .ok (.dup, 1) := by decide +kernel
theorem dX10_init_92 : decode cX10_init 92 = .ok (.iconst 1, 1) := by decide +kernel
theorem dX10_init_93 : decode cX10_init 93 = .ok (.iconst 1, 1) := by decide +kernel
theorem dX10_init_94 : decode cX10_init 94 = .ok (.iastore, 1) := by decide +kernel
theorem dX10_init_95 : decode cX10_init 95 = .ok (.dup, 1) := by decide +kernel
theorem dX10_init_96 : decode cX10_init 96 = .ok (.iconst 2, 1) := by decide +kernel
theorem dX10_init_97 : decode cX10_init 97 = .ok (.iconst 1, 1) := by decide +kernel
theorem dX10_init_98 : decode cX10_init 98 = .ok (.iastore, 1) := by decide +kernel
theorem dX10_init_99 : decode cX10_init 99 = .ok (.dup, 1) := by decide +kernel
theorem dX10_init_100 : decode cX10_init 100 = .ok (.iconst 3, 1) := by decide +kernel
theorem dX10_init_101 : decode cX10_init 101 = .ok (.iconst 1, 1) := by decide +kernel
theorem dX10_init_102 : decode cX10_init 102 = .ok (.iastore, 1) := by decide +kernel
theorem dX10_init_103 : decode cX10_init 103 = .ok (.dup, 1) := by decide +kernel
theorem dX10_init_104 : decode cX10_init 104 = .ok (.iconst 4, 1) := by decide +kernel
theorem dX10_init_105 : decode cX10_init 105 = .ok (.iconst 1, 1) := by decide +kernel
theorem dX10_init_106 : decode cX10_init 106 = .ok (.iastore, 1) := by decide +kernel
theorem dX10_init_107 : decode cX10_init 107 = .ok (.dup, 1) := by decide +kernel
theorem dX10_init_108 : decode cX10_init 108 = .ok (.iconst 5, 1) := by decide +kernel
theorem dX10_init_109 : decode cX10_init 109 = .ok (.iconst 1, 1) := by decide +kernel
theorem dX10_init_110 : decode cX10_init 110 = .ok (.iastore, 1) := by decide +kernel
theorem dX10_init_111 : decode cX10_init 111 = .ok (.dup, 1) := by decide +kernel
theorem dX10_init_112 : decode cX10_init 112 = .ok (.bipush 6, 2) := by decide +kernel
theorem dX10_init_114 : decode cX10_init 114 = .ok (.iconst 3, 1) := by decide +kernel
theorem dX10_init_115 : decode cX10_init 115 = .ok (.iastore, 1) := by decide +kernel
theorem dX10_init_116 : decode cX10_init 116 = .ok (.putfield 42, 3) := by decide +kernel
theorem dX10_init_119 : decode cX10_init 119 = .ok (.aload_n 0, 1) := by decide +kernel
theorem dX10_init_120 : decode cX10_init 120 = .ok (.bipush 7, 2) := by decide +kernel
theorem dX10_init_122 : decode cX10_init 122 = .ok (.newarray .int, 2) := by decide +kernel
theorem dX10_init_124 : decode cX10_init 124 = .ok (.dup, 1) := by decide +kernel
theorem dX10_init_125 : decode cX10_init 125 = .ok (.iconst 0, 1) := by decide +kernel
theorem dX10_init_126 : decode cX10_init 126 = .ok (.iconst 1, 1) := by decide +kernel
theorem dX10_init_127 : decode cX10_init 127 = .ok (.iastore, 1) := by decide +kernel
theorem dX10_init_128 : decode cX10_init 128 = .ok (.dup, 1) := by decide +kernel
theorem dX10_init_129 : decode cX10_init 129 = .ok (.iconst 1, 1) := by decide +kernel
theorem dX10_init_130 : decode cX10_init 130 = .ok (.iconst 3, 1) := by decide +kernel
theorem dX10_init_131 : decode cX10_init 131 = .ok (.iastore, 1) := by decide +kernel
theorem dX10_init_132 : decode cX10_init 132 = .ok (.dup, 1) := by decide +kernel
theorem dX10_init_133 : decode cX10_init 133 = .ok (.iconst 2, 1) := by decide +kernel
theorem dX10_init_134 : decode cX10_init 134 = .ok (.iconst 3, 1) := by decide +kernel
theorem dX10_init_135 : decode cX10_init 135 = .ok (.iastore, 1) := by decide +kernel
theorem dX10_init_136 : decode cX10_init 136 = .ok (.dup, 1) := by decide +kernel
theorem dX10_init_137 : decode cX10_init 137 = .ok (.iconst 3, 1) := by decide +kernel
theorem dX10_init_138 : decode cX10_init 138 = .ok (.iconst 0, 1) := by decide +kernel
theorem dX10_init_139 : decode cX10_init 139 = .ok (.iastore, 1) := by decide +kernel
theorem dX10_init_140 : decode cX10_init 140 = .ok (.dup, 1) := by decide +kernel
theorem dX10_init_141 : decode cX10_init 141 = .ok (.iconst 4, 1) := by decide +kernel
theorem dX10_init_142 : decode cX10_init 142 = .ok (.iconst 1, 1) := by decide +kernel
theorem dX10_init_143 : decode cX10_init 143 = .ok (.iastore, 1) := by decide +kernel
theorem dX10_init_144 : decode cX10_init 144 = .ok (.dup, 1) := by decide +kernel
theorem dX10_init_145 : decode cX10_init 145 = .ok (.iconst 5, 1) := by decide +kernel
theorem dX10_init_146 : decode cX10_init 146 = .ok (.iconst 4, 1) := by decide +kernel
theorem dX10_init_147 : decode cX10_init 147 = .ok (.iastore, 1) := by decide +kernel
theorem dX10_init_148 : decode cX10_init 148 = .ok (.dup, 1) := by decide +kernel
theorem dX10_init_149 : decode cX10_init 149 = .ok (.bipush 6, 2) := by decide +kernel
theorem dX10_init_151 : decode cX10_init 151 = .ok (.iconst 0, 1) := by decide +kernel
theorem dX10_init_152 : decode cX10_init 152 = .ok (.iastore, 1) := by decide +kernel
theorem dX10_init_153 : decode cX10_init 153 = .ok (.putfield 45, 3) := by decide +kernel
theorem dX10_init_156 : decode cX10_init 156 = .ok (.aload_n 0, 1) := by decide +kernel
theorem dX10_init_157 : decode cX10_init 157 = .ok (.bipush 12, 2) := by decide +kernel
theorem dX10_init_159 : decode cX10_init 159 = .ok (.newarray .int, 2) := by decide +kernel
theorem dX10_init_161 : decode cX10_init 161 = .ok (.putfield 48, 3) := by decide +kernel
theorem dX10_init_164 : decode cX10_init 164 = .ok (.aload_n 0, 1) := by decide +kernel
theorem dX10_init_165 : decode cX10_init 165 = .ok (.bipush 13, 2) := by decide +kernel
theorem dX10_init_167 : decode cX10_init 167 = .ok (.newarray .int, 2) := by decide +kernel
theorem dX10_init_169 : decode cX10_init 169 = .ok (.putfield 51, 3) := by decide +kernel
theorem dX10_init_172 : decode cX10_init 172 = .ok (.aload_n 0, 1) := by decide +kernel
theorem dX10_init_173 : decode cX10_init 173 = .ok (.bipush 13, 2) := by decide +kernel
theorem dX10_init_175 : decode cX10_init 175 = .ok (.newarray .int, 2) := by decide +kernel
theorem dX10_init_177 : decode cX10_init 177 = .ok (.putfield 54, 3) := by decide +kernel
theorem dX10_init_180 : decode cX10_init 180 = .ok (.aload_n 0, 1) := by decide +kernel
theorem dX10_init_181 : decode cX10_init 181 = .ok (.bipush 7, 2) := by decide +kernel
theorem dX10_init_183 : decode cX10_init 183 = .ok (.newarray .int, 2) := by decide +kernel
theorem dX10_init_185 : decode cX10_init 185 = .ok (.putfield 57, 3) := by decide +kernel
theorem dX10_init_188 : decode cX10_init 188 = .ok (.aload_n 0, 1) := by decide +kernel
theorem dX10_init_189 : decode cX10_init 189 = .ok (.bipush 7, 2) := by decide +kernel
theorem dX10_init_191 : decode cX10_init 191 = .ok (.newarray .int, 2) := by decide +kernel
theorem dX10_init_193 : decode cX10_init 193 = .ok (.putfield 60, 3) := by decide +kernel
theorem dX10_init_196 : decode cX10_init 196 = .ok (.aload_n 0, 1) := by decide +kernel
theorem dX10_init_197 : decode cX10_init 197 = .ok (.sipush 240, 3) := by decide +kernel
theorem dX10_init_200 : decode cX10_init 200 = .ok (.newarray .int, 2) := by decide +kernel
theorem dX10_init_202 : decode cX10_init 202 = .ok (.putfield 63, 3) := by decide +kernel
theorem dX10_init_205 : decode cX10_init 205 = .ok (.aload_n 0, 1) := by decide +kernel
theorem dX10_init_206 : decode cX10_init 206 = .ok (.bipush 40, 2) := by decide +kernel
theorem dX10_init_208 : decode cX10_init 208 = .ok (.newarray .int, 2) := by decide +kernel
theorem dX10_init_210 : decode cX10_init 210 = .ok (.putfield 66, 3) := by decide +kernel
theorem dX10_init_213 : decode cX10_init 213 = .ok (.return_, 1) := by decide +kernel
theorem dX10_input_0 : decode cX10_input 0 = .ok (.aload_n 0, 1) := by decide +kernel
theorem dX10_input_1 : decode cX10_input 1 = .ok (.iload_n 1, 1) := by decide +kernel
theorem dX10_input_2 : decode cX10_input 2 = .ok (.iload_n 2, 1) := by decide +kernel
theorem dX10_input_3 : decode cX10_input 3 = .ok (.invokevirtual 101, 3) := by decide +kernel
theorem dX10_input_6 : decode cX10_input 6 = .ok (.ifCond .eq 18, 3) := by decide +kernel
theorem dX10_input_9 : decode cX10_input 9 = .ok (.aload_n 0, 1) := by decide +kernel
theorem dX10_input_10 : decode cX10_input 10 = .ok (.getfield 7, 3) := by decide +kernel
theorem dX10_input_13 : decode cX10_input 13 = .ok (.iload_n 1, 1) := by decide +kernel
theorem dX10_input_14 : decode cX10_input 14 = .ok (.iconst 3, 1) := by decide +kernel
theorem dX10_input_15 : decode cX10_input 15 = .ok (.iload_n 2, 1) := by decide +kernel
theorem dX10_input_16 : decode cX10_input 16 = .ok (.iadd, 1) := by decide +kernel
theorem dX10_input_17 : decode cX10_input 17 = .ok (.invokestatic 73, 3) := by decide +kernel
theorem dX10_input_20 : decode cX10_input 20 = .ok (.iaload, 1) := by decide +kernel
theorem dX10_input_21 : decode cX10_input 21 = .ok (.goto 6, 3) := by decide +kernel
theorem dX10_input_24 : decode cX10_input 24 = .ok (.sipush (-1001), 3) := by decide +kernel
theorem dX10_input_27 : decode cX10_input 27 = .ok (.ireturn, 1) := by decide +kernel
theorem dX10_isCached_0 : decode cX10_isCached 0 = .ok (.aload_n 0, 1) := by decide +kernel
theorem dX10_isCached_1 : decode cX10_isCached 1 = .ok (.iload_n 1, 1) := by decide +kernel
theorem dX10_isCached_2 : decode cX10_isCached 2 = .ok (.iload_n 2, 1) := by decide +kernel
theorem dX10_isCached_3 : decode cX10_isCached 3 = .ok (.invokevirtual 178, 3) := by decide +kernel
theorem dX10_isCached_6 : decode cX10_isCached 6 = .ok (.ifCond .ne 9, 3) := by decide +kernel
theorem dX10_isCached_9 : decode cX10_isCached 9 = .ok (.sipush (-1001), 3) := by decide +kernel
theorem dX10_isCached_12 : decode cX10_isCached 12 = .ok (.goto 17, 3) := by decide +kernel
theorem dX10_isCached_15 : decode cX10_isCached 15 = .ok (.aload_n 0, 1) := by decide +kernel
theorem dX10_isCached_16 : decode cX10_isCached 16 = .ok (.iload_n 1, 1) := by decide +kernel
theorem dX10_isCached_17 : decode cX10_isCached 17 = .ok (.iload_n 2, 1) := by decide +kernel
theorem dX10_isCached_18 : decode cX10_isCached 18 = .ok (.invokevirtual 140, 3) := by decide +kernel
theorem dX10_isCached_21 : decode cX10_isCached 21 = .ok (.ifCond .ge 7, 3) := by decide +kernel
theorem dX10_isCached_24 : decode cX10_isCached 24 = .ok (.iconst 0, 1) := by decide +kernel
theorem dX10_isCached_25 : decode cX10_isCached 25 = .ok (.goto 4, 3) := by decide +kernel
theorem dX10_isCached_28 : decode cX10_isCached 28 = .ok (.iconst 1, 1) := by decide +kernel
theorem dX10_isCached_29 : decode cX10_isCached 29 = .ok (.ireturn, 1) := by decide +kernel
theorem dX10_isDigit_0 : decode cX10_isDigit 0 = .ok (.aload_n 0, 1) := by decide +kernel
theorem dX10_isDigit_1 : decode cX10_isDigit 1 = .ok (.invokevirtual 196, 3) := by decide +kernel
theorem dX10_isDigit_4 : decode cX10_isDigit 4 = .ok (.bipush 48, 2) := by decide +kernel
theorem dX10_isDigit_6 : decode cX10_isDigit 6 = .ok (.bipush 57, 2) := by decide +kernel
theorem dX10_isDigit_8 : decode cX10_isDigit 8 = .ok (.invokestatic 69, 3) := by decide +kernel
theorem dX10_isDigit_11 : decode cX10_isDigit 11 = .ok (.ireturn, 1) := by decide +kernel
theorem dX10_isInRange_0 : decode cX10_isInRange 0 = .ok (.iload_n 2, 1) := by decide +kernel
theorem dX10_isInRange_1 : decode cX10_isInRange 1 = .ok (.aload_n 0, 1) := by decide +kernel
theorem dX10_isInRange_2 : decode cX10_isInRange 2 = .ok (.getfield 7, 3) := by decide +kernel
theorem dX10_isInRange_5 : decode cX10_isInRange 5 = .ok (.iload_n 1, 1) := by decide +kernel
theorem dX10_isInRange_6 : decode cX10_isInRange 6 = .ok (.iconst 1, 1) := by decide +kernel
theorem dX10_isInRange_7 : decode cX10_isInRange 7 = .ok (.invokestatic 73, 3) := by decide +kernel
theorem dX10_isInRange_10 : decode cX10_isInRange 10 = .ok (.iaload, 1) := by decide +kernel
theorem dX10_isInRange_11 : decode cX10_isInRange 11 = .ok (.aload_n 0, 1) := by decide +kernel
theorem dX10_isInRange_12 : decode cX10_isInRange 12 = .ok (.getfield 7, 3) := by decide +kernel
theorem dX10_isInRange_15 : decode cX10_isInRange 15 = .ok (.iload_n 1, 1) := by decide +kernel
theorem dX10_isInRange_16 : decode cX10_isInRange 16 = .ok (.iconst 2, 1) := by decide +kernel
theorem dX10_isInRange_17 : decode cX10_isInRange 17 = .ok (.invokestatic 73, 3) := by decide +kernel
theorem dX10_isInRange_20 : decode cX10_isInRange 20 = .ok (.iaload, 1) := by decide +kernel
theorem dX10_isInRange_21 : decode cX10_isInRange 21 = .ok (.invokestatic 69, 3) := by decide +kernel
theorem dX10_isInRange_24 : decode cX10_isInRange 24 = .ok (.ireturn, 1) := by decide +kernel
theorem dX10_isInput_0 : decode cX10_isInput 0 = .ok (.aload_n 0, 1) := by decide +kernel
theorem dX10_isInput_1 : decode cX10_isInput 1 = .ok (.iload_n 1, 1) := by decide +kernel
theorem dX10_isInput_2 : decode cX10_isInput 2 = .ok (.invokevirtual 77, 3) := by decide +kernel
theorem dX10_isInput_5 : decode cX10_isInput 5 = .ok (.ifCond .eq 27, 3) := by decide +kernel
theorem dX10_isInput_8 : decode cX10_isInput 8 = .ok (.iload_n 2, 1) := by decide +kernel
theorem dX10_isInput_9 : decode cX10_isInput 9 = .ok (.iconst 0, 1) := by decide +kernel
theorem dX10_isInput_10 : decode cX10_isInput 10 = .ok (.aload_n 0, 1) := by decide +kernel
theorem dX10_isInput_11 : decode cX10_isInput 11 = .ok (.getfield 42, 3) := by decide +kernel
theorem dX10_isInput_14 : decode cX10_isInput 14 = .ok (.aload_n 0, 1) := by decide +kernel
theorem dX10_isInput_15 : decode cX10_isInput 15 = .ok (.iload_n 1, 1) := by decide +kernel
theorem dX10_isInput_16 : decode cX10_isInput 16 = .ok (.invokevirtual 81, 3) := by decide +kernel
theorem dX10_isInput_19 : decode cX10_isInput 19 = .ok (.iaload, 1) := by decide +kernel
theorem dX10_isInput_20 : decode cX10_isInput 20 = .ok (.iconst 1, 1) := by decide +kernel
theorem dX10_isInput_21 : decode cX10_isInput 21 = .ok (.isub, 1) := by decide +kernel
theorem dX10_isInput_22 : decode cX10_isInput 22 = .ok (.invokestatic 69, 3) := by decide +kernel
theorem dX10_isInput_25 : decode cX10_isInput 25 = .ok (.ifCond .eq 7, 3) := by decide +kernel
theorem dX10_isInput_28 : decode cX10_isInput 28 = .ok (.iconst 1, 1) := by decide +kernel
theorem dX10_isInput_29 : decode cX10_isInput 29 = .ok (.goto 4, 3) := by decide +kernel
theorem dX10_isInput_32 : decode cX10_isInput 32 = .ok (.iconst 0, 1) := by decide +kernel
theorem dX10_isInput_33 : decode cX10_isInput 33 = .ok (.ireturn, 1) := by decide +kernel
theorem dX10_isNode_0 : decode cX10_isNode 0 = .ok (.iload_n 1, 1) := by decide +kernel
theorem dX10_isNode_1 : decode cX10_isNode 1 = .ok (.iconst 0, 1) := by decide +kernel
theorem dX10_isNode_2 : decode cX10_isNode 2 = .ok (.aload_n 0, 1) := by decide +kernel
theorem dX10_isNode_3 : decode cX10_isNode 3 = .ok (.getfield 7, 3) := by decide +kernel
theorem dX10_isNode_6 : decode cX10_isNode 6 = .ok (.iconst 0, 1) := by decide +kernel
theorem dX10_isNode_7 : decode cX10_isNode 7 = .ok (.iaload, 1) := by decide +kernel
theorem dX10_isNode_8 : decode cX10_isNode 8 = .ok (.iconst 1, 1) := by decide +kernel
theorem dX10_isNode_9 : decode cX10_isNode 9 = .ok (.isub, 1) := by decide +kernel
theorem dX10_isNode_10 : decode cX10_isNode 10 = .ok (.invokestatic 69, 3) := by decide +kernel
theorem dX10_isNode_13 : decode cX10_isNode 13 = .ok (.ireturn, 1) := by decide +kernel
theorem dX10_isParameter_0 : decode cX10_isParameter 0 = .ok (.aload_n 0, 1) := by decide +kernel
theorem dX10_isParameter_1 : decode cX10_isParameter 1 = .ok (.iload_n 1, 1) := by decide +kernel
theorem dX10_isParameter_2 : decode cX10_isParameter 2 = .ok (.invokevirtual 77, 3) := by decide +kernel
theorem dX10_isParameter_5 : decode cX10_isParameter 5 = .ok (.ifCond .eq 27, 3) := by decide +kernel
theorem dX10_isParameter_8 : decode cX10_isParameter 8 = .ok (.iload_n 2, 1) := by decide +kernel
theorem dX10_isParameter_9 : decode cX10_isParameter 9 = .ok (.iconst 0, 1) := by decide +kernel
theorem dX10_isParameter_10 : decode cX10_isParameter 10 = .ok (.aload_n 0, 1) := by decide +kernel
theorem dX10_isParameter_11 : decode cX10_isParameter 11 = .ok (.getfield 45, 3) := by decide +kernel
theorem dX10_isParameter_14 : decode cX10_isParameter 14 = .ok (.aload_n 0, 1) := by decide +kernel
theorem dX10_isParameter_15 : decode cX10_isParameter 15 = .ok (.iload_n 1, 1) := by decide +kernel
theorem dX10_isParameter_16 : decode cX10_isParameter 16 = .ok (.invokevirtual 81, 3) := by decide +kernel
theorem dX10_isParameter_19 : decode cX10_isParameter 19 = .ok (.iaload, 1) := by decide +kernel
theorem dX10_isParameter_20 : decode cX10_isParameter 20 = .ok (.iconst 1, 1) := by decide +kernel
theorem dX10_isParameter_21 : decode cX10_isParameter 21 = .ok (.isub, 1) := by decide +kernel
theorem dX10_isParameter_22 : decode cX10_isParameter 22 = .ok (.invokestatic 69, 3) := by decide +kernel
theorem dX10_isParameter_25 : decode cX10_isParameter 25 = .ok (.ifCond .eq 7, 3) := by decide +kernel
theorem dX10_isParameter_28 : decode cX10_isParameter 28 = .ok (.iconst 1, 1) := by decide +kernel
theorem dX10_isParameter_29 : decode cX10_isParameter 29 = .ok (.goto 4, 3) := by decide +kernel
theorem dX10_isParameter_32 : decode cX10_isParameter 32 = .ok (.iconst 0, 1) := by decide +kernel
theorem dX10_isParameter_33 : decode cX10_isParameter 33 = .ok (.ireturn, 1) := by decide +kernel
theorem dX10_isPicture_0 : decode cX10_isPicture 0 = .ok (.aload_n 0, 1) := by decide +kernel
theorem dX10_isPicture_1 : decode cX10_isPicture 1 = .ok (.iload_n 1, 1) := by decide +kernel
theorem dX10_isPicture_2 : decode cX10_isPicture 2 = .ok (.invokevirtual 77, 3) := by decide +kernel
theorem dX10_isPicture_5 : decode cX10_isPicture 5 = .ok (.ifCond .eq 17, 3) := by decide +kernel
theorem dX10_isPicture_8 : decode cX10_isPicture 8 = .ok (.iload_n 2, 1) := by decide +kernel
theorem dX10_isPicture_9 : decode cX10_isPicture 9 = .ok (.iconst 0, 1) := by decide +kernel
theorem dX10_isPicture_10 : decode cX10_isPicture 10 = .ok (.bipush 99, 2) := by decide +kernel
theorem dX10_isPicture_12 : decode cX10_isPicture 12 = .ok (.invokestatic 69, 3) := by decide +kernel
theorem dX10_isPicture_15 : decode cX10_isPicture 15 = .ok (.ifCond .eq 7, 3) := by decide +kernel
theorem dX10_isPicture_18 : decode cX10_isPicture 18 = .ok (.iconst 1, 1) := by decide +kernel
theorem dX10_isPicture_19 : decode cX10_isPicture 19 = .ok (.goto 4, 3) := by decide +kernel
theorem dX10_isPicture_22 : decode cX10_isPicture 22 = .ok (.iconst 0, 1) := by decide +kernel
theorem dX10_isPicture_23 : decode cX10_isPicture 23 = .ok (.ireturn, 1) := by decide +kernel
theorem dX10_isReady_0 : decode cX10_isReady 0 = .ok (.iconst 1, 1) := by decide +kernel
theorem dX10_isReady_1 : decode cX10_isReady 1 = .ok (.istore_n 3, 1) := by decide +kernel
theorem dX10_isReady_2 : decode cX10_isReady 2 = .ok (.iconst 0, 1) := by decide +kernel
theorem dX10_isReady_3 : decode cX10_isReady 3 = .ok (.istore 4, 2) := by decide +kernel
theorem dX10_isReady_5 : decode cX10_isReady 5 = .ok (.iload 4, 2) := by decide +kernel
theorem dX10_isReady_7 : decode cX10_isReady 7 = .ok (.iconst 3, 1) := by decide +kernel
theorem dX10_isReady_8 : decode cX10_isReady 8 = .ok (.if_icmp .ge 49, 3) := by decide +kernel
theorem dX10_isReady_11 : decode cX10_isReady 11 = .ok (.aload_n 0, 1) := by decide +kernel
theorem dX10_isReady_12 : decode cX10_isReady 12 = .ok (.getfield 7, 3) := by decide +kernel
theorem dX10_isReady_15 : decode cX10_isReady 15 = .ok (.iload_n 1, 1) := by decide +kernel
theorem dX10_isReady_16 : decode cX10_isReady 16 = .ok (.iconst 3, 1) := by decide +kernel
theorem dX10_isReady_17 : decode cX10_isReady 17 = .ok (.iload 4, 2) := by decide +kernel
theorem dX10_isReady_19 : decode cX10_isReady 19 = .ok (.iadd, 1) := by decide +kernel
theorem dX10_isReady_20 : decode cX10_isReady 20 = .ok (.invokestatic 73, 3) := by decide +kernel
theorem dX10_isReady_23 : decode cX10_isReady 23 = .ok (.iaload, 1) := by decide +kernel
theorem dX10_isReady_24 : decode cX10_isReady 24 = .ok (.istore 5, 2) := by decide +kernel
theorem dX10_isReady_26 : decode cX10_isReady 26 = .ok (.iload_n 3, 1) := by decide +kernel
theorem dX10_isReady_27 : decode cX10_isReady 27 = .ok (.ifCond .eq 22, 3) := by decide +kernel
theorem dX10_isReady_30 : decode cX10_isReady 30 = .ok (.iload 5, 2) := by decide +kernel
theorem dX10_isReady_32 : decode cX10_isReady 32 = .ok (.ifCond .lt 13, 3) := by decide +kernel
theorem dX10_isReady_35 : decode cX10_isReady 35 = .ok (.iload_n 2, 1) := by decide +kernel
theorem dX10_isReady_36 : decode cX10_isReady 36 = .ok (.iload 5, 2) := by decide +kernel
theorem dX10_isReady_38 : decode cX10_isReady 38 = .ok (.ishr, 1) := by decide +kernel
theorem dX10_isReady_39 : decode cX10_isReady 39 = .ok (.iconst 1, 1) := by decide +kernel
theorem dX10_isReady_40 : decode cX10_isReady 40 = .ok (.iand, 1) := by decide +kernel
theorem dX10_isReady_41 : decode cX10_isReady 41 = .ok (.iconst 1, 1) := by decide +kernel
theorem dX10_isReady_42 : decode cX10_isReady 42 = .ok (.if_icmp .ne 7, 3) := by decide +kernel
theorem dX10_isReady_45 : decode cX10_isReady 45 = .ok (.iconst 1, 1) := by decide +kernel
theorem dX10_isReady_46 : decode cX10_isReady 46 = .ok (.goto 4, 3) := by decide +kernel
theorem dX10_isReady_49 : decode cX10_isReady 49 = .ok (.iconst 0, 1) := by decide +kernel
theorem dX10_isReady_50 : decode cX10_isReady 50 = .ok (.istore_n 3, 1) := by decide +kernel
theorem dX10_isReady_51 : decode cX10_isReady 51 = .ok (.iinc 4 1, 3) := by decide +kernel
theorem dX10_isReady_54 : decode cX10_isReady 54 = .ok (.goto (-49), 3) := by decide +kernel
theorem dX10_isReady_57 : decode cX10_isReady 57 = .ok (.iload_n 3, 1) := by decide +kernel
theorem dX10_isReady_58 : decode cX10_isReady 58 = .ok (.ireturn, 1) := by decide +kernel
theorem dX10_isText_0 : decode cX10_isText 0 = .ok (.aload_n 0, 1) := by decide +kernel
theorem dX10_isText_1 : decode cX10_isText 1 = .ok (.iconst 0, 1) := by decide +kernel
theorem dX10_isText_2 : decode cX10_isText 2 = .ok (.putfield 193, 3) := by decide +kernel
theorem dX10_isText_5 : decode cX10_isText 5 = .ok (.aload_n 0, 1) := by decide +kernel
theorem dX10_isText_6 : decode cX10_isText 6 = .ok (.iconst 0, 1) := by decide +kernel
theorem dX10_isText_7 : decode cX10_isText 7 = .ok (.putfield 223, 3) := by decide +kernel
theorem dX10_isText_10 : decode cX10_isText 10 = .ok (.aload_n 0, 1) := by decide +kernel
theorem dX10_isText_11 : decode cX10_isText 11 = .ok (.iconst 0, 1) := by decide +kernel
theorem dX10_isText_12 : decode cX10_isText 12 = .ok (.putfield 206, 3) := by decide +kernel
theorem dX10_isText_15 : decode cX10_isText 15 = .ok (.aload_n 0, 1) := by decide +kernel
theorem dX10_isText_16 : decode cX10_isText 16 = .ok (.iconst 0, 1) := by decide +kernel
theorem dX10_isText_17 : decode cX10_isText 17 = .ok (.putfield 209, 3) := by decide +kernel
theorem dX10_isText_20 : decode cX10_isText 20 = .ok (.aload_n 0, 1) := by decide +kernel
theorem dX10_isText_21 : decode cX10_isText 21 = .ok (.invokevirtual 226, 3) := by decide +kernel
theorem dX10_isText_24 : decode cX10_isText 24 = .ok (.istore_n 1, 1) := by decide +kernel
theorem dX10_isText_25 : decode cX10_isText 25 = .ok (.iload_n 1, 1) := by decide +kernel
theorem dX10_isText_26 : decode cX10_isText 26 = .ok (.ifCond .eq 137, 3) := by decide +kernel
theorem dX10_isText_29 : decode cX10_isText 29 = .ok (.aload_n 0, 1) := by decide +kernel
theorem dX10_isText_30 : decode cX10_isText 30 = .ok (.getfield 223, 3) := by decide +kernel
theorem dX10_isText_33 : decode cX10_isText 33 = .ok (.ifCond .le 130, 3) := by decide +kernel
theorem dX10_isText_36 : decode cX10_isText 36 = .ok (.aload_n 0, 1) := by decide +kernel
theorem dX10_isText_37 : decode cX10_isText 37 = .ok (.getfield 57, 3) := by decide +kernel
theorem dX10_isText_40 : decode cX10_isText 40 = .ok (.aload_n 0, 1) := by decide +kernel
theorem dX10_isText_41 : decode cX10_isText 41 = .ok (.getfield 223, 3) := by decide +kernel
theorem dX10_isText_44 : decode cX10_isText 44 = .ok (.iconst 1, 1) := by decide +kernel
theorem dX10_isText_45 : decode cX10_isText 45 = .ok (.isub, 1) := by decide +kernel
theorem dX10_isText_46 : decode cX10_isText 46 = .ok (.iaload, 1) := by decide +kernel
theorem dX10_isText_47 : decode cX10_isText 47 = .ok (.istore_n 2, 1) := by decide +kernel
theorem dX10_isText_48 : decode cX10_isText 48 = .ok (.iload_n 2, 1) := by decide +kernel
theorem dX10_isText_49 : decode cX10_isText 49 = .ok (.bipush 7, 2) := by decide +kernel
theorem dX10_isText_51 : decode cX10_isText 51 = .ok (.if_icmp .ne 7, 3) := by decide +kernel
theorem dX10_isText_54 : decode cX10_isText 54 = .ok (.iconst 0, 1) := by decide +kernel
theorem dX10_isText_55 : decode cX10_isText 55 = .ok (.goto 9, 3) := by decide +kernel
theorem dX10_isText_58 : decode cX10_isText 58 = .ok (.aload_n 0, 1) := by decide +kernel
theorem dX10_isText_59 : decode cX10_isText 59 = .ok (.getfield 42, 3) := by decide +kernel
theorem dX10_isText_62 : decode cX10_isText 62 = .ok (.iload_n 2, 1) := by decide +kernel
theorem dX10_isText_63 : decode cX10_isText 63 = .ok (.iaload, 1) := by decide +kernel
theorem dX10_isText_64 : decode cX10_isText 64 = .ok (.istore_n 3, 1) := by decide +kernel
theorem dX10_isText_65 : decode cX10_isText 65 = .ok (.aload_n 0, 1) := by decide +kernel
theorem dX10_isText_66 : decode cX10_isText 66 = .ok (.getfield 60, 3) := by decide +kernel
theorem dX10_isText_69 : decode cX10_isText 69 = .ok (.aload_n 0, 1) := by decide +kernel
theorem dX10_isText_70 : decode cX10_isText 70 = .ok (.getfield 223, 3) := by decide +kernel
theorem dX10_isText_73 : decode cX10_isText 73 = .ok (.iconst 1, 1) := by decide +kernel
theorem dX10_isText_74 : decode cX10_isText 74 = .ok (.isub, 1) := by decide +kernel
theorem dX10_isText_75 : decode cX10_isText 75 = .ok (.iaload, 1) := by decide +kernel
theorem dX10_isText_76 : decode cX10_isText 76 = .ok (.iload_n 3, 1) := by decide +kernel
theorem dX10_isText_77 : decode cX10_isText 77 = .ok (.if_icmp .ge 59, 3) := by decide +kernel
theorem dX10_isText_80 : decode cX10_isText 80 = .ok (.aload_n 0, 1) := by decide +kernel
theorem dX10_isText_81 : decode cX10_isText 81 = .ok (.getfield 60, 3) := by decide +kernel
theorem dX10_isText_84 : decode cX10_isText 84 = .ok (.aload_n 0, 1) := by decide +kernel
theorem dX10_isText_85 : decode cX10_isText 85 = .ok (.getfield 223, 3) := by decide +kernel
theorem dX10_isText_88 : decode cX10_isText 88 = .ok (.iconst 1, 1) := by decide +kernel
theorem dX10_isText_89 : decode cX10_isText 89 = .ok (.isub, 1) := by decide +kernel
theorem dX10_isText_90 : decode cX10_isText 90 = .ok (.iaload, 1) := by decide +kernel
theorem dX10_isText_91 : decode cX10_isText 91 = .ok (.ifCond .eq 12, 3) := by decide +kernel
theorem dX10_isText_94 : decode cX10_isText 94 = .ok (.aload_n 0, 1) := by decide +kernel
theorem dX10_isText_95 : decode cX10_isText 95 = .ok (.bipush 44, 2) := by decide +kernel
theorem dX10_isText_97 : decode cX10_isText 97 = .ok (.invokevirtual 214, 3) := by decide +kernel
theorem dX10_isText_100 : decode cX10_isText 100 = .ok (.ifCond .eq 7, 3) := by decide +kernel
theorem dX10_isText_103 : decode cX10_isText 103 = .ok (.iconst 1, 1) := by decide +kernel
theorem dX10_isText_104 : decode cX10_isText 104 = .ok (.goto 4, 3) := by decide +kernel
theorem dX10_isText_107 : decode cX10_isText 107 = .ok (.iconst 0, 1) := by decide +kernel
theorem dX10_isText_108 : decode cX10_isText 108 = .ok (.istore_n 1, 1) := by decide +kernel
theorem dX10_isText_109 : decode cX10_isText 109 = .ok (.iload_n 1, 1) := by decide +kernel
theorem dX10_isText_110 : decode cX10_isText 110 = .ok (.ifCond .eq 50, 3) := by decide +kernel
theorem dX10_isText_113 : decode cX10_isText 113 = .ok (.aload_n 0, 1) := by decide +kernel
theorem dX10_isText_114 : decode cX10_isText 114 = .ok (.getfield 60, 3) := by decide +kernel
theorem dX10_isText_117 : decode cX10_isText 117 = .ok (.aload_n 0, 1) := by decide +kernel
theorem dX10_isText_118 : decode cX10_isText 118 = .ok (.getfield 223, 3) := by decide +kernel
theorem dX10_isText_121 : decode cX10_isText 121 = .ok (.iconst 1, 1) := by decide +kernel
theorem dX10_isText_122 : decode cX10_isText 122 = .ok (.isub, 1) := by decide +kernel
theorem dX10_isText_123 : decode cX10_isText 123 = .ok (.dup2, 1) := by decide +kernel
theorem dX10_isText_124 : decode cX10_isText 124 = .ok (.iaload, 1) := by decide +kernel
theorem dX10_isText_125 : decode cX10_isText 125 = .ok (.iconst 1, 1) := by decide +kernel
theorem dX10_isText_126 : decode cX10_isText 126 = .ok (.iadd, 1) := by decide +kernel
theorem dX10_isText_127 : decode cX10_isText 127 = .ok (.iastore, 1) := by decide +kernel
theorem dX10_isText_128 : decode cX10_isText 128 = .ok (.aload_n 0, 1) := by decide +kernel
theorem dX10_isText_129 : decode cX10_isText 129 = .ok (.invokevirtual 226, 3) := by decide +kernel
theorem dX10_isText_132 : decode cX10_isText 132 = .ok (.istore_n 1, 1) := by decide +kernel
theorem dX10_isText_133 : decode cX10_isText 133 = .ok (.goto 27, 3) := by decide +kernel
theorem dX10_isText_136 : decode cX10_isText 136 = .ok (.aload_n 0, 1) := by decide +kernel
theorem dX10_isText_137 : decode cX10_isText 137 = .ok (.iload_n 2, 1) := by decide +kernel
theorem dX10_isText_138 : decode cX10_isText 138 = .ok (.invokevirtual 229, 3) := by decide +kernel
theorem dX10_isText_141 : decode cX10_isText 141 = .ok (.istore_n 1, 1) := by decide +kernel
theorem dX10_isText_142 : decode cX10_isText 142 = .ok (.aload_n 0, 1) := by decide +kernel
theorem dX10_isText_143 : decode cX10_isText 143 = .ok (.dup, 1) := by decide +kernel
theorem dX10_isText_144 : decode cX10_isText 144 = .ok (.getfield 223, 3) := by decide +kernel
theorem dX10_isText_147 : decode cX10_isText 147 = .ok (.iload_n 1, 1) := by decide +kernel
theorem dX10_isText_148 : decode cX10_isText 148 = .ok (.ifCond .eq 7, 3) := by decide +kernel
theorem dX10_isText_151 : decode cX10_isText 151 = .ok (.iconst 1, 1) := by decide +kernel
theorem dX10_isText_152 : decode cX10_isText 152 = .ok (.goto 4, 3) := by decide +kernel
theorem dX10_isText_155 : decode cX10_isText 155 = .ok (.iconst 0, 1) := by decide +kernel
theorem dX10_isText_156 : decode cX10_isText 156 = .ok (.isub, 1) := by decide +kernel
theorem dX10_isText_157 : decode cX10_isText 157 = .ok (.putfield 223, 3) := by decide +kernel
theorem dX10_isText_160 : decode cX10_isText 160 = .ok (.goto (-135), 3) := by decide +kernel
theorem dX10_isText_163 : decode cX10_isText 163 = .ok (.iload_n 1, 1) := by decide +kernel
theorem dX10_isText_164 : decode cX10_isText 164 = .ok (.ifCond .eq 18, 3) := by decide +kernel
theorem dX10_isText_167 : decode cX10_isText 167 = .ok (.aload_n 0, 1) := by decide +kernel
theorem dX10_isText_168 : decode cX10_isText 168 = .ok (.getfield 193, 3) := by decide +kernel
theorem dX10_isText_171 : decode cX10_isText 171 = .ok (.aload_n 0, 1) := by decide +kernel
theorem dX10_isText_172 : decode cX10_isText 172 = .ok (.getfield 190, 3) := by decide +kernel
theorem dX10_isText_175 : decode cX10_isText 175 = .ok (.if_icmp .ne 7, 3) := by decide +kernel
theorem dX10_isText_178 : decode cX10_isText 178 = .ok (.iconst 1, 1) := by decide +kernel
theorem dX10_isText_179 : decode cX10_isText 179 = .ok (.goto 4, 3) := by decide +kernel
theorem dX10_isText_182 : decode cX10_isText 182 = .ok (.iconst 0, 1) := by decide +kernel
theorem dX10_isText_183 : decode cX10_isText 183 = .ok (.ireturn, 1) := by decide +kernel
theorem dX10_keyed_0 : decode cX10_keyed 0 = .ok (.iload_n 1, 1) := by decide +kernel
theorem dX10_keyed_1 : decode cX10_keyed 1 = .ok (.iload_n 2, 1) := by decide +kernel
theorem dX10_keyed_2 : decode cX10_keyed 2 = .ok (.if_icmp .le 5, 3) := by decide +kernel
theorem dX10_keyed_5 : decode cX10_keyed 5 = .ok (.iconst 0, 1) := by decide +kernel
theorem dX10_keyed_6 : decode cX10_keyed 6 = .ok (.ireturn, 1) := by decide +kernel
theorem dX10_keyed_7 : decode cX10_keyed 7 = .ok (.iload_n 0, 1) := by decide +kernel
theorem dX10_keyed_8 : decode cX10_keyed 8 = .ok (.iload_n 1, 1) := by decide +kernel
theorem dX10_keyed_9 : decode cX10_keyed 9 = .ok (.if_icmp .ge 9, 3) := by decide +kernel
theorem dX10_keyed_12 : decode cX10_keyed 12 = .ok (.iload_n 1, 1) := by decide +kernel
theorem dX10_keyed_13 : decode cX10_keyed 13 = .ok (.iload_n 0, 1) := by decide +kernel
theorem dX10_keyed_14 : decode cX10_keyed 14 = .ok (.isub, 1) := by decide +kernel
theorem dX10_keyed_15 : decode cX10_keyed 15 = .ok (.goto 15, 3) := by decide +kernel
theorem dX10_keyed_18 : decode cX10_keyed 18 = .ok (.iload_n 0, 1) := by decide +kernel
theorem dX10_keyed_19 : decode cX10_keyed 19 = .ok (.iload_n 2, 1) := by decide +kernel
theorem dX10_keyed_20 : decode cX10_keyed 20 = .ok (.if_icmp .le 9, 3) := by decide +kernel
theorem dX10_keyed_23 : decode cX10_keyed 23 = .ok (.iload_n 0, 1) := by decide +kernel
theorem dX10_keyed_24 : decode cX10_keyed 24 = .ok (.iload_n 2, 1) := by decide +kernel
theorem dX10_keyed_25 : decode cX10_keyed 25 = .ok (.isub, 1) := by decide +kernel
theorem dX10_keyed_26 : decode cX10_keyed 26 = .ok (.goto 4, 3) := by decide +kernel
theorem dX10_keyed_29 : decode cX10_keyed 29 = .ok (.iconst 0, 1) := by decide +kernel
theorem dX10_keyed_30 : decode cX10_keyed 30 = .ok (.istore 4, 2) := by decide +kernel
theorem dX10_keyed_32 : decode cX10_keyed 32 = .ok (.iload 4, 2) := by decide +kernel
theorem dX10_keyed_34 : decode cX10_keyed 34 = .ok (.ifCond .ne 9, 3) := by decide +kernel
theorem dX10_keyed_37 : decode cX10_keyed 37 = .ok (.sipush 255, 3) := by decide +kernel
theorem dX10_keyed_40 : decode cX10_keyed 40 = .ok (.goto 27, 3) := by decide +kernel
theorem dX10_keyed_43 : decode cX10_keyed 43 = .ok (.iload 4, 2) := by decide +kernel
theorem dX10_keyed_45 : decode cX10_keyed 45 = .ok (.iload_n 3, 1) := by decide +kernel
theorem dX10_keyed_46 : decode cX10_keyed 46 = .ok (.if_icmp .le 7, 3) := by decide +kernel
theorem dX10_keyed_49 : decode cX10_keyed 49 = .ok (.iconst 0, 1) := by decide +kernel
theorem dX10_keyed_50 : decode cX10_keyed 50 = .ok (.goto 17, 3) := by decide +kernel
theorem dX10_keyed_53 : decode cX10_keyed 53 = .ok (.sipush 255, 3) := by decide +kernel
theorem dX10_keyed_56 : decode cX10_keyed 56 = .ok (.sipush 255, 3) := by decide +kernel
theorem dX10_keyed_59 : decode cX10_keyed 59 = .ok (.iload 4, 2) := by decide +kernel
theorem dX10_keyed_61 : decode cX10_keyed 61 = .ok (.imul, 1) := by decide +kernel
theorem dX10_keyed_62 : decode cX10_keyed 62 = .ok (.iload_n 3, 1) := by decide +kernel
theorem dX10_keyed_63 : decode cX10_keyed 63 = .ok (.iconst 1, 1) := by decide +kernel
theorem dX10_keyed_64 : decode cX10_keyed 64 = .ok (.iadd, 1) := by decide +kernel
theorem dX10_keyed_65 : decode cX10_keyed 65 = .ok (.idiv, 1) := by decide +kernel
theorem dX10_keyed_66 : decode cX10_keyed 66 = .ok (.isub, 1) := by decide +kernel
theorem dX10_keyed_67 : decode cX10_keyed 67 = .ok (.ireturn, 1) := by decide +kernel
theorem dX10_kind_0 : decode cX10_kind 0 = .ok (.aload_n 0, 1) := by decide +kernel
theorem dX10_kind_1 : decode cX10_kind 1 = .ok (.getfield 7, 3) := by decide +kernel
theorem dX10_kind_4 : decode cX10_kind 4 = .ok (.iload_n 1, 1) := by decide +kernel
theorem dX10_kind_5 : decode cX10_kind 5 = .ok (.iconst 0, 1) := by decide +kernel
theorem dX10_kind_6 : decode cX10_kind 6 = .ok (.invokestatic 73, 3) := by decide +kernel
theorem dX10_kind_9 : decode cX10_kind 9 = .ok (.iaload, 1) := by decide +kernel
theorem dX10_kind_10 : decode cX10_kind 10 = .ok (.ireturn, 1) := by decide +kernel
theorem dX10_kindHere_0 : decode cX10_kindHere 0 = .ok (.aload_n 0, 1) := by decide +kernel
theorem dX10_kindHere_1 : decode cX10_kindHere 1 = .ok (.invokevirtual 196, 3) := by decide +kernel
theorem dX10_kindHere_4 : decode cX10_kindHere 4 = .ok (.tableswitch 110 98 116 #[104, 110, 110, 110, 110, 94, 110, 98, 110, 102, 100, 110, 107, 110, 110, 110, 110, 92, 96], 92) := by decide +kernel
theorem dX10_kindHere_96 : decode cX10_kindHere 96 = .ok (.iconst 0, 1) := by decide +kernel
theorem dX10_kindHere_97 : decode cX10_kindHere 97 = .ok (.ireturn, 1) := by decide +kernel
theorem dX10_kindHere_98 : decode cX10_kindHere 98 = .ok (.iconst 1, 1) := by decide +kernel
theorem dX10_kindHere_99 : decode cX10_kindHere 99 = .ok (.ireturn, 1) := by decide +kernel
theorem dX10_kindHere_100 : decode cX10_kindHere 100 = .ok (.iconst 2, 1) := by decide +kernel
theorem dX10_kindHere_101 : decode cX10_kindHere 101 = .ok (.ireturn, 1) := by decide +kernel
theorem dX10_kindHere_102 : decode cX10_kindHere 102 = .ok (.iconst 3, 1) := by decide +kernel
theorem dX10_kindHere_103 : decode cX10_kindHere 103 = .ok (.ireturn, 1) := by decide +kernel
theorem dX10_kindHere_104 : decode cX10_kindHere 104 = .ok (.iconst 4, 1) := by decide +kernel
theorem dX10_kindHere_105 : decode cX10_kindHere 105 = .ok (.ireturn, 1) := by decide +kernel
theorem dX10_kindHere_106 : decode cX10_kindHere 106 = .ok (.iconst 5, 1) := by decide +kernel
theorem dX10_kindHere_107 : decode cX10_kindHere 107 = .ok (.ireturn, 1) := by decide +kernel
theorem dX10_kindHere_108 : decode cX10_kindHere 108 = .ok (.bipush 6, 2) := by decide +kernel
theorem dX10_kindHere_110 : decode cX10_kindHere 110 = .ok (.ireturn, 1) := by decide +kernel
theorem dX10_kindHere_111 : decode cX10_kindHere 111 = .ok (.bipush 7, 2) := by decide +kernel
theorem dX10_kindHere_113 : decode cX10_kindHere 113 = .ok (.ireturn, 1) := by decide +kernel
theorem dX10_kindHere_114 : decode cX10_kindHere 114 = .ok (.iconst (-1), 1) := by decide +kernel
theorem dX10_kindHere_115 : decode cX10_kindHere 115 = .ok (.ireturn, 1) := by decide +kernel
theorem dX10_limit_0 : decode cX10_limit 0 = .ok (.iload_n 0, 1) := by decide +kernel
theorem dX10_limit_1 : decode cX10_limit 1 = .ok (.ifCond .ge 7, 3) := by decide +kernel
theorem dX10_limit_4 : decode cX10_limit 4 = .ok (.iconst 0, 1) := by decide +kernel
theorem dX10_limit_5 : decode cX10_limit 5 = .ok (.goto 17, 3) := by decide +kernel
theorem dX10_limit_8 : decode cX10_limit 8 = .ok (.iload_n 0, 1) := by decide +kernel
theorem dX10_limit_9 : decode cX10_limit 9 = .ok (.sipush 255, 3) := by decide +kernel
theorem dX10_limit_12 : decode cX10_limit 12 = .ok (.if_icmp .le 9, 3) := by decide +kernel
theorem dX10_limit_15 : decode cX10_limit 15 = .ok (.sipush 255, 3) := by decide +kernel
theorem dX10_limit_18 : decode cX10_limit 18 = .ok (.goto 4, 3) := by decide +kernel
theorem dX10_limit_21 : decode cX10_limit 21 = .ok (.iload_n 0, 1) := by decide +kernel
theorem dX10_limit_22 : decode cX10_limit 22 = .ok (.ireturn, 1) := by decide +kernel
theorem dX10_low_0 : decode cX10_low 0 = .ok (.iload_n 0, 1) := by decide +kernel
theorem dX10_low_1 : decode cX10_low 1 = .ok (.iconst 2, 1) := by decide +kernel
theorem dX10_low_2 : decode cX10_low 2 = .ok (.if_icmp .ne 9, 3) := by decide +kernel
theorem dX10_low_5 : decode cX10_low 5 = .ok (.sipush (-255), 3) := by decide +kernel
theorem dX10_low_8 : decode cX10_low 8 = .ok (.goto 4, 3) := by decide +kernel
theorem dX10_low_11 : decode cX10_low 11 = .ok (.iconst 0, 1) := by decide +kernel
theorem dX10_low_12 : decode cX10_low 12 = .ok (.ireturn, 1) := by decide +kernel
theorem dX10_made_0 : decode cX10_made 0 = .ok (.aload_n 0, 1) := by decide +kernel
theorem dX10_made_1 : decode cX10_made 1 = .ok (.iload_n 1, 1) := by decide +kernel
theorem dX10_made_2 : decode cX10_made 2 = .ok (.invokevirtual 81, 3) := by decide +kernel
theorem dX10_made_5 : decode cX10_made 5 = .ok (.istore 4, 2) := by decide +kernel
theorem dX10_made_7 : decode cX10_made 7 = .ok (.aload_n 0, 1) := by decide +kernel
theorem dX10_made_8 : decode cX10_made 8 = .ok (.iload_n 1, 1) := by decide +kernel
theorem dX10_made_9 : decode cX10_made 9 = .ok (.iload_n 2, 1) := by decide +kernel
theorem dX10_made_10 : decode cX10_made 10 = .ok (.invokevirtual 152, 3) := by decide +kernel
theorem dX10_made_13 : decode cX10_made 13 = .ok (.ifCond .ne 21, 3) := by decide +kernel
theorem dX10_made_16 : decode cX10_made 16 = .ok (.iload 4, 2) := by decide +kernel
theorem dX10_made_18 : decode cX10_made 18 = .ok (.ifCond .ne 7, 3) := by decide +kernel
theorem dX10_made_21 : decode cX10_made 21 = .ok (.iconst 0, 1) := by decide +kernel
theorem dX10_made_22 : decode cX10_made 22 = .ok (.goto 11, 3) := by decide +kernel
theorem dX10_made_25 : decode cX10_made 25 = .ok (.aload_n 0, 1) := by decide +kernel
theorem dX10_made_26 : decode cX10_made 26 = .ok (.iload_n 1, 1) := by decide +kernel
theorem dX10_made_27 : decode cX10_made 27 = .ok (.iconst 0, 1) := by decide +kernel
theorem dX10_made_28 : decode cX10_made 28 = .ok (.iload_n 2, 1) := by decide +kernel
theorem dX10_made_29 : decode cX10_made 29 = .ok (.iload_n 3, 1) := by decide +kernel
theorem dX10_made_30 : decode cX10_made 30 = .ok (.invokevirtual 165, 3) := by decide +kernel
theorem dX10_made_33 : decode cX10_made 33 = .ok (.ireturn, 1) := by decide +kernel
theorem dX10_made_34 : decode cX10_made 34 = .ok (.iload_n 3, 1) := by decide +kernel
theorem dX10_made_35 : decode cX10_made 35 = .ok (.bipush 32, 2) := by decide +kernel
theorem dX10_made_37 : decode cX10_made 37 = .ok (.idiv, 1) := by decide +kernel
theorem dX10_made_38 : decode cX10_made 38 = .ok (.istore 5, 2) := by decide +kernel
theorem dX10_made_40 : decode cX10_made 40 = .ok (.iload_n 1, 1) := by decide +kernel
theorem dX10_made_41 : decode cX10_made 41 = .ok (.bipush 6, 2) := by decide +kernel
theorem dX10_made_43 : decode cX10_made 43 = .ok (.invokestatic 73, 3) := by decide +kernel
theorem dX10_made_46 : decode cX10_made 46 = .ok (.istore 6, 2) := by decide +kernel
theorem dX10_made_48 : decode cX10_made 48 = .ok (.iload 4, 2) := by decide +kernel
theorem dX10_made_50 : decode cX10_made 50 = .ok (.tableswitch 226 0 5 #[38, 96, 122, 145, 158, 173], 38) := by decide +kernel
theorem dX10_made_88 : decode cX10_made 88 = .ok (.bipush 7, 2) := by decide +kernel
theorem dX10_made_90 : decode cX10_made 90 = .ok (.aload_n 0, 1) := by decide +kernel
theorem dX10_made_91 : decode cX10_made 91 = .ok (.getfield 7, 3) := by decide +kernel
theorem dX10_made_94 : decode cX10_made 94 = .ok (.iload 6, 2) := by decide +kernel
theorem dX10_made_96 : decode cX10_made 96 = .ok (.iaload, 1) := by decide +kernel
theorem dX10_made_97 : decode cX10_made 97 = .ok (.imul, 1) := by decide +kernel
theorem dX10_made_98 : decode cX10_made 98 = .ok (.bipush 31, 2) := by decide +kernel
theorem dX10_made_100 : decode cX10_made 100 = .ok (.iload_n 3, 1) := by decide +kernel
theorem dX10_made_101 : decode cX10_made 101 = .ok (.bipush 8, 2) := by decide +kernel
theorem dX10_made_103 : decode cX10_made 103 = .ok (.irem, 1) := by decide +kernel
theorem dX10_made_104 : decode cX10_made 104 = .ok (.imul, 1) := by decide +kernel
theorem dX10_made_105 : decode cX10_made 105 = .ok (.iadd, 1) := by decide +kernel
theorem dX10_made_106 : decode cX10_made 106 = .ok (.bipush 17, 2) := by decide +kernel
theorem dX10_made_108 : decode cX10_made 108 = .ok (.iload_n 3, 1) := by decide +kernel
theorem dX10_made_109 : decode cX10_made 109 = .ok (.bipush 8, 2) := by decide +kernel
theorem dX10_made_111 : decode cX10_made 111 = .ok (.idiv, 1) := by decide +kernel
theorem dX10_made_112 : decode cX10_made 112 = .ok (.iconst 4, 1) := by decide +kernel
theorem dX10_made_113 : decode cX10_made 113 = .ok (.irem, 1) := by decide +kernel
theorem dX10_made_114 : decode cX10_made 114 = .ok (.imul, 1) := by decide +kernel
theorem dX10_made_115 : decode cX10_made 115 = .ok (.iadd, 1) := by decide +kernel
theorem dX10_made_116 : decode cX10_made 116 = .ok (.bipush 11, 2) := by decide +kernel
theorem dX10_made_118 : decode cX10_made 118 = .ok (.iload_n 2, 1) := by decide +kernel
theorem dX10_made_119 : decode cX10_made 119 = .ok (.imul, 1) := by decide +kernel
theorem dX10_made_120 : decode cX10_made 120 = .ok (.iadd, 1) := by decide +kernel
theorem dX10_made_121 : decode cX10_made 121 = .ok (.bipush 53, 2) := by decide +kernel
theorem dX10_made_123 : decode cX10_made 123 = .ok (.iload 5, 2) := by decide +kernel
theorem dX10_made_125 : decode cX10_made 125 = .ok (.imul, 1) := by decide +kernel
theorem dX10_made_126 : decode cX10_made 126 = .ok (.iadd, 1) := by decide +kernel
theorem dX10_made_127 : decode cX10_made 127 = .ok (.iload_n 3, 1) := by decide +kernel
theorem dX10_made_128 : decode cX10_made 128 = .ok (.bipush 8, 2) := by decide +kernel
theorem dX10_made_130 : decode cX10_made 130 = .ok (.irem, 1) := by decide +kernel
theorem dX10_made_131 : decode cX10_made 131 = .ok (.iload_n 3, 1) := by decide +kernel
theorem dX10_made_132 : decode cX10_made 132 = .ok (.bipush 8, 2) := by decide +kernel
theorem dX10_made_134 : decode cX10_made 134 = .ok (.idiv, 1) := by decide +kernel
theorem dX10_made_135 : decode cX10_made 135 = .ok (.iconst 4, 1) := by decide +kernel
theorem dX10_made_136 : decode cX10_made 136 = .ok (.irem, 1) := by decide +kernel
theorem dX10_made_137 : decode cX10_made 137 = .ok (.imul, 1) := by decide +kernel
theorem dX10_made_138 : decode cX10_made 138 = .ok (.iload_n 2, 1) := by decide +kernel
theorem dX10_made_139 : decode cX10_made 139 = .ok (.imul, 1) := by decide +kernel
theorem dX10_made_140 : decode cX10_made 140 = .ok (.iadd, 1) := by decide +kernel
theorem dX10_made_141 : decode cX10_made 141 = .ok (.sipush 256, 3) := by decide +kernel
theorem dX10_made_144 : decode cX10_made 144 = .ok (.irem, 1) := by decide +kernel
theorem dX10_made_145 : decode cX10_made 145 = .ok (.ireturn, 1) := by decide +kernel
theorem dX10_made_146 : decode cX10_made 146 = .ok (.aload_n 0, 1) := by decide +kernel
theorem dX10_made_147 : decode cX10_made 147 = .ok (.iload_n 1, 1) := by decide +kernel
theorem dX10_made_148 : decode cX10_made 148 = .ok (.iconst 0, 1) := by decide +kernel
theorem dX10_made_149 : decode cX10_made 149 = .ok (.iload_n 2, 1) := by decide +kernel
theorem dX10_made_150 : decode cX10_made 150 = .ok (.iload_n 3, 1) := by decide +kernel
theorem dX10_made_151 : decode cX10_made 151 = .ok (.invokevirtual 165, 3) := by decide +kernel
theorem dX10_made_154 : decode cX10_made 154 = .ok (.aload_n 0, 1) := by decide +kernel
theorem dX10_made_155 : decode cX10_made 155 = .ok (.getfield 7, 3) := by decide +kernel
theorem dX10_made_158 : decode cX10_made 158 = .ok (.iload 6, 2) := by decide +kernel
theorem dX10_made_160 : decode cX10_made 160 = .ok (.iload 5, 2) := by decide +kernel
theorem dX10_made_162 : decode cX10_made 162 = .ok (.iadd, 1) := by decide +kernel
theorem dX10_made_163 : decode cX10_made 163 = .ok (.iaload, 1) := by decide +kernel
theorem dX10_made_164 : decode cX10_made 164 = .ok (.imul, 1) := by decide +kernel
theorem dX10_made_165 : decode cX10_made 165 = .ok (.bipush 16, 2) := by decide +kernel
theorem dX10_made_167 : decode cX10_made 167 = .ok (.idiv, 1) := by decide +kernel
theorem dX10_made_168 : decode cX10_made 168 = .ok (.invokestatic 169, 3) := by decide +kernel
theorem dX10_made_171 : decode cX10_made 171 = .ok (.ireturn, 1) := by decide +kernel
theorem dX10_made_172 : decode cX10_made 172 = .ok (.aload_n 0, 1) := by decide +kernel
theorem dX10_made_173 : decode cX10_made 173 = .ok (.iload_n 1, 1) := by decide +kernel
theorem dX10_made_174 : decode cX10_made 174 = .ok (.iconst 0, 1) := by decide +kernel
theorem dX10_made_175 : decode cX10_made 175 = .ok (.iload_n 2, 1) := by decide +kernel
theorem dX10_made_176 : decode cX10_made 176 = .ok (.iload_n 3, 1) := by decide +kernel
theorem dX10_made_177 : decode cX10_made 177 = .ok (.invokevirtual 165, 3) := by decide +kernel
theorem dX10_made_180 : decode cX10_made 180 = .ok (.aload_n 0, 1) := by decide +kernel
theorem dX10_made_181 : decode cX10_made 181 = .ok (.getfield 7, 3) := by decide +kernel
theorem dX10_made_184 : decode cX10_made 184 = .ok (.iload 6, 2) := by decide +kernel
theorem dX10_made_186 : decode cX10_made 186 = .ok (.iload 5, 2) := by decide +kernel
theorem dX10_made_188 : decode cX10_made 188 = .ok (.iadd, 1) := by decide +kernel
theorem dX10_made_189 : decode cX10_made 189 = .ok (.iaload, 1) := by decide +kernel
theorem dX10_made_190 : decode cX10_made 190 = .ok (.iadd, 1) := by decide +kernel
theorem dX10_made_191 : decode cX10_made 191 = .ok (.invokestatic 169, 3) := by decide +kernel
theorem dX10_made_194 : decode cX10_made 194 = .ok (.ireturn, 1) := by decide +kernel
theorem dX10_made_195 : decode cX10_made 195 = .ok (.sipush 255, 3) := by decide +kernel
theorem dX10_made_198 : decode cX10_made 198 = .ok (.aload_n 0, 1) := by decide +kernel
theorem dX10_made_199 : decode cX10_made 199 = .ok (.iload_n 1, 1) := by decide +kernel
theorem dX10_made_200 : decode cX10_made 200 = .ok (.iconst 0, 1) := by decide +kernel
theorem dX10_made_201 : decode cX10_made 201 = .ok (.iload_n 2, 1) := by decide +kernel
theorem dX10_made_202 : decode cX10_made 202 = .ok (.iload_n 3, 1) := by decide +kernel
theorem dX10_made_203 : decode cX10_made 203 = .ok (.invokevirtual 165, 3) := by decide +kernel
theorem dX10_made_206 : decode cX10_made 206 = .ok (.isub, 1) := by decide +kernel
theorem dX10_made_207 : decode cX10_made 207 = .ok (.ireturn, 1) := by decide +kernel
theorem dX10_made_208 : decode cX10_made 208 = .ok (.aload_n 0, 1) := by decide +kernel
theorem dX10_made_209 : decode cX10_made 209 = .ok (.iload_n 1, 1) := by decide +kernel
theorem dX10_made_210 : decode cX10_made 210 = .ok (.iload_n 2, 1) := by decide +kernel
theorem dX10_made_211 : decode cX10_made 211 = .ok (.iload_n 3, 1) := by decide +kernel
theorem dX10_made_212 : decode cX10_made 212 = .ok (.aload_n 0, 1) := by decide +kernel
theorem dX10_made_213 : decode cX10_made 213 = .ok (.getfield 7, 3) := by decide +kernel
theorem dX10_made_216 : decode cX10_made 216 = .ok (.iload 6, 2) := by decide +kernel
theorem dX10_made_218 : decode cX10_made 218 = .ok (.iaload, 1) := by decide +kernel
theorem dX10_made_219 : decode cX10_made 219 = .ok (.invokevirtual 172, 3) := by decide +kernel
theorem dX10_made_222 : decode cX10_made 222 = .ok (.ireturn, 1) := by decide +kernel
theorem dX10_made_223 : decode cX10_made 223 = .ok (.aload_n 0, 1) := by decide +kernel
theorem dX10_made_224 : decode cX10_made 224 = .ok (.iload_n 1, 1) := by decide +kernel
theorem dX10_made_225 : decode cX10_made 225 = .ok (.iconst 0, 1) := by decide +kernel
theorem dX10_made_226 : decode cX10_made 226 = .ok (.iload_n 2, 1) := by decide +kernel
theorem dX10_made_227 : decode cX10_made 227 = .ok (.bipush 32, 2) := by decide +kernel
theorem dX10_made_229 : decode cX10_made 229 = .ok (.aload_n 0, 1) := by decide +kernel
theorem dX10_made_230 : decode cX10_made 230 = .ok (.getfield 7, 3) := by decide +kernel
theorem dX10_made_233 : decode cX10_made 233 = .ok (.iload 6, 2) := by decide +kernel
theorem dX10_made_235 : decode cX10_made 235 = .ok (.iaload, 1) := by decide +kernel
theorem dX10_made_236 : decode cX10_made 236 = .ok (.imul, 1) := by decide +kernel
theorem dX10_made_237 : decode cX10_made 237 = .ok (.iload_n 3, 1) := by decide +kernel
theorem dX10_made_238 : decode cX10_made 238 = .ok (.bipush 32, 2) := by decide +kernel
theorem dX10_made_240 : decode cX10_made 240 = .ok (.irem, 1) := by decide +kernel
theorem dX10_made_241 : decode cX10_made 241 = .ok (.iadd, 1) := by decide +kernel
theorem dX10_made_242 : decode cX10_made 242 = .ok (.invokevirtual 165, 3) := by decide +kernel
theorem dX10_made_245 : decode cX10_made 245 = .ok (.aload_n 0, 1) := by decide +kernel
theorem dX10_made_246 : decode cX10_made 246 = .ok (.getfield 7, 3) := by decide +kernel
theorem dX10_made_249 : decode cX10_made 249 = .ok (.iload 6, 2) := by decide +kernel
theorem dX10_made_251 : decode cX10_made 251 = .ok (.iconst 1, 1) := by decide +kernel
theorem dX10_made_252 : decode cX10_made 252 = .ok (.iadd, 1) := by decide +kernel
theorem dX10_made_253 : decode cX10_made 253 = .ok (.iaload, 1) := by decide +kernel
theorem dX10_made_254 : decode cX10_made 254 = .ok (.aload_n 0, 1) := by decide +kernel
theorem dX10_made_255 : decode cX10_made 255 = .ok (.getfield 7, 3) := by decide +kernel
theorem dX10_made_258 : decode cX10_made 258 = .ok (.iload 6, 2) := by decide +kernel
theorem dX10_made_260 : decode cX10_made 260 = .ok (.iconst 2, 1) := by decide +kernel
theorem dX10_made_261 : decode cX10_made 261 = .ok (.iadd, 1) := by decide +kernel
theorem dX10_made_262 : decode cX10_made 262 = .ok (.iaload, 1) := by decide +kernel
theorem dX10_made_263 : decode cX10_made 263 = .ok (.aload_n 0, 1) := by decide +kernel
theorem dX10_made_264 : decode cX10_made 264 = .ok (.getfield 7, 3) := by decide +kernel
theorem dX10_made_267 : decode cX10_made 267 = .ok (.iload 6, 2) := by decide +kernel
theorem dX10_made_269 : decode cX10_made 269 = .ok (.iconst 3, 1) := by decide +kernel
theorem dX10_made_270 : decode cX10_made 270 = .ok (.iadd, 1) := by decide +kernel
theorem dX10_made_271 : decode cX10_made 271 = .ok (.iaload, 1) := by decide +kernel
theorem dX10_made_272 : decode cX10_made 272 = .ok (.invokestatic 175, 3) := by decide +kernel
theorem dX10_made_275 : decode cX10_made 275 = .ok (.ireturn, 1) := by decide +kernel
theorem dX10_made_276 : decode cX10_made 276 = .ok (.aload_n 0, 1) := by decide +kernel
theorem dX10_made_277 : decode cX10_made 277 = .ok (.iload_n 1, 1) := by decide +kernel
theorem dX10_made_278 : decode cX10_made 278 = .ok (.iconst 0, 1) := by decide +kernel
theorem dX10_made_279 : decode cX10_made 279 = .ok (.iload_n 2, 1) := by decide +kernel
theorem dX10_made_280 : decode cX10_made 280 = .ok (.iload_n 3, 1) := by decide +kernel
theorem dX10_made_281 : decode cX10_made 281 = .ok (.invokevirtual 165, 3) := by decide +kernel
theorem dX10_made_284 : decode cX10_made 284 = .ok (.sipush 255, 3) := by decide +kernel
theorem dX10_made_287 : decode cX10_made 287 = .ok (.aload_n 0, 1) := by decide +kernel
theorem dX10_made_288 : decode cX10_made 288 = .ok (.iload_n 1, 1) := by decide +kernel
theorem dX10_made_289 : decode cX10_made 289 = .ok (.iconst 2, 1) := by decide +kernel
theorem dX10_made_290 : decode cX10_made 290 = .ok (.iload_n 2, 1) := by decide +kernel
theorem dX10_made_291 : decode cX10_made 291 = .ok (.iload_n 3, 1) := by decide +kernel
theorem dX10_made_292 : decode cX10_made 292 = .ok (.invokevirtual 165, 3) := by decide +kernel
theorem dX10_made_295 : decode cX10_made 295 = .ok (.isub, 1) := by decide +kernel
theorem dX10_made_296 : decode cX10_made 296 = .ok (.imul, 1) := by decide +kernel
theorem dX10_made_297 : decode cX10_made 297 = .ok (.aload_n 0, 1) := by decide +kernel
theorem dX10_made_298 : decode cX10_made 298 = .ok (.iload_n 1, 1) := by decide +kernel
theorem dX10_made_299 : decode cX10_made 299 = .ok (.iconst 1, 1) := by decide +kernel
theorem dX10_made_300 : decode cX10_made 300 = .ok (.iload_n 2, 1) := by decide +kernel
theorem dX10_made_301 : decode cX10_made 301 = .ok (.iload_n 3, 1) := by decide +kernel
theorem dX10_made_302 : decode cX10_made 302 = .ok (.invokevirtual 165, 3) := by decide +kernel
theorem dX10_made_305 : decode cX10_made 305 = .ok (.aload_n 0, 1) := by decide +kernel
theorem dX10_made_306 : decode cX10_made 306 = .ok (.iload_n 1, 1) := by decide +kernel
theorem dX10_made_307 : decode cX10_made 307 = .ok (.iconst 2, 1) := by decide +kernel
theorem dX10_made_308 : decode cX10_made 308 = .ok (.iload_n 2, 1) := by decide +kernel
theorem dX10_made_309 : decode cX10_made 309 = .ok (.iload_n 3, 1) := by decide +kernel
theorem dX10_made_310 : decode cX10_made 310 = .ok (.invokevirtual 165, 3) := by decide +kernel
theorem dX10_made_313 : decode cX10_made 313 = .ok (.imul, 1) := by decide +kernel
theorem dX10_made_314 : decode cX10_made 314 = .ok (.iadd, 1) := by decide +kernel
theorem dX10_made_315 : decode cX10_made 315 = .ok (.sipush 255, 3) := by decide +kernel
theorem dX10_made_318 : decode cX10_made 318 = .ok (.idiv, 1) := by decide +kernel
theorem dX10_made_319 : decode cX10_made 319 = .ok (.ireturn, 1) := by decide +kernel
theorem dX10_makes_0 : decode cX10_makes 0 = .ok (.aload_n 0, 1) := by decide +kernel
theorem dX10_makes_1 : decode cX10_makes 1 = .ok (.aload_n 0, 1) := by decide +kernel
theorem dX10_makes_2 : decode cX10_makes 2 = .ok (.getfield 20, 3) := by decide +kernel
theorem dX10_makes_5 : decode cX10_makes 5 = .ok (.iconst 1, 1) := by decide +kernel
theorem dX10_makes_6 : decode cX10_makes 6 = .ok (.isub, 1) := by decide +kernel
theorem dX10_makes_7 : decode cX10_makes 7 = .ok (.invokevirtual 158, 3) := by decide +kernel
theorem dX10_makes_10 : decode cX10_makes 10 = .ok (.aload_n 0, 1) := by decide +kernel
theorem dX10_makes_11 : decode cX10_makes 11 = .ok (.getfield 85, 3) := by decide +kernel
theorem dX10_makes_14 : decode cX10_makes 14 = .ok (.istore_n 3, 1) := by decide +kernel
theorem dX10_makes_15 : decode cX10_makes 15 = .ok (.aload_n 0, 1) := by decide +kernel
theorem dX10_makes_16 : decode cX10_makes 16 = .ok (.getfield 24, 3) := by decide +kernel
theorem dX10_makes_19 : decode cX10_makes 19 = .ok (.iload_n 3, 1) := by decide +kernel
theorem dX10_makes_20 : decode cX10_makes 20 = .ok (.iload_n 1, 1) := by decide +kernel
theorem dX10_makes_21 : decode cX10_makes 21 = .ok (.iastore, 1) := by decide +kernel
theorem dX10_makes_22 : decode cX10_makes 22 = .ok (.aload_n 0, 1) := by decide +kernel
theorem dX10_makes_23 : decode cX10_makes 23 = .ok (.getfield 27, 3) := by decide +kernel
theorem dX10_makes_26 : decode cX10_makes 26 = .ok (.iload_n 3, 1) := by decide +kernel
theorem dX10_makes_27 : decode cX10_makes 27 = .ok (.iload_n 2, 1) := by decide +kernel
theorem dX10_makes_28 : decode cX10_makes 28 = .ok (.iastore, 1) := by decide +kernel
theorem dX10_makes_29 : decode cX10_makes 29 = .ok (.aload_n 0, 1) := by decide +kernel
theorem dX10_makes_30 : decode cX10_makes 30 = .ok (.dup, 1) := by decide +kernel
theorem dX10_makes_31 : decode cX10_makes 31 = .ok (.getfield 85, 3) := by decide +kernel
theorem dX10_makes_34 : decode cX10_makes 34 = .ok (.iconst 1, 1) := by decide +kernel
theorem dX10_makes_35 : decode cX10_makes 35 = .ok (.iadd, 1) := by decide +kernel
theorem dX10_makes_36 : decode cX10_makes 36 = .ok (.putfield 85, 3) := by decide +kernel
theorem dX10_makes_39 : decode cX10_makes 39 = .ok (.iconst 0, 1) := by decide +kernel
theorem dX10_makes_40 : decode cX10_makes 40 = .ok (.istore 4, 2) := by decide +kernel
theorem dX10_makes_42 : decode cX10_makes 42 = .ok (.iload 4, 2) := by decide +kernel
theorem dX10_makes_44 : decode cX10_makes 44 = .ok (.bipush 96, 2) := by decide +kernel
theorem dX10_makes_46 : decode cX10_makes 46 = .ok (.if_icmp .ge 29, 3) := by decide +kernel
theorem dX10_makes_49 : decode cX10_makes 49 = .ok (.aload_n 0, 1) := by decide +kernel
theorem dX10_makes_50 : decode cX10_makes 50 = .ok (.getfield 33, 3) := by decide +kernel
theorem dX10_makes_53 : decode cX10_makes 53 = .ok (.bipush 96, 2) := by decide +kernel
theorem dX10_makes_55 : decode cX10_makes 55 = .ok (.iload_n 3, 1) := by decide +kernel
theorem dX10_makes_56 : decode cX10_makes 56 = .ok (.imul, 1) := by decide +kernel
theorem dX10_makes_57 : decode cX10_makes 57 = .ok (.iload 4, 2) := by decide +kernel
theorem dX10_makes_59 : decode cX10_makes 59 = .ok (.iadd, 1) := by decide +kernel
theorem dX10_makes_60 : decode cX10_makes 60 = .ok (.aload_n 0, 1) := by decide +kernel
theorem dX10_makes_61 : decode cX10_makes 61 = .ok (.iload_n 1, 1) := by decide +kernel
theorem dX10_makes_62 : decode cX10_makes 62 = .ok (.iload_n 2, 1) := by decide +kernel
theorem dX10_makes_63 : decode cX10_makes 63 = .ok (.iload 4, 2) := by decide +kernel
theorem dX10_makes_65 : decode cX10_makes 65 = .ok (.invokevirtual 161, 3) := by decide +kernel
theorem dX10_makes_68 : decode cX10_makes 68 = .ok (.iastore, 1) := by decide +kernel
theorem dX10_makes_69 : decode cX10_makes 69 = .ok (.iinc 4 1, 3) := by decide +kernel
theorem dX10_makes_72 : decode cX10_makes 72 = .ok (.goto (-30), 3) := by decide +kernel
theorem dX10_makes_75 : decode cX10_makes 75 = .ok (.aload_n 0, 1) := by decide +kernel
theorem dX10_makes_76 : decode cX10_makes 76 = .ok (.iload_n 3, 1) := by decide +kernel
theorem dX10_makes_77 : decode cX10_makes 77 = .ok (.invokevirtual 143, 3) := by decide +kernel
theorem dX10_makes_80 : decode cX10_makes 80 = .ok (.return_, 1) := by decide +kernel
theorem dX10_makesRoom_0 : decode cX10_makesRoom 0 = .ok (.aload_n 0, 1) := by decide +kernel
theorem dX10_makesRoom_1 : decode cX10_makesRoom 1 = .ok (.getfield 85, 3) := by decide +kernel
theorem dX10_makesRoom_4 : decode cX10_makesRoom 4 = .ok (.iload_n 1, 1) := by decide +kernel
theorem dX10_makesRoom_5 : decode cX10_makesRoom 5 = .ok (.if_icmp .le 24, 3) := by decide +kernel
theorem dX10_makesRoom_8 : decode cX10_makesRoom 8 = .ok (.aload_n 0, 1) := by decide +kernel
theorem dX10_makesRoom_9 : decode cX10_makesRoom 9 = .ok (.aload_n 0, 1) := by decide +kernel
theorem dX10_makesRoom_10 : decode cX10_makesRoom 10 = .ok (.invokevirtual 136, 3) := by decide +kernel
theorem dX10_makesRoom_13 : decode cX10_makesRoom 13 = .ok (.invokevirtual 97, 3) := by decide +kernel
theorem dX10_makesRoom_16 : decode cX10_makesRoom 16 = .ok (.aload_n 0, 1) := by decide +kernel
theorem dX10_makesRoom_17 : decode cX10_makesRoom 17 = .ok (.getfield 36, 3) := by decide +kernel
theorem dX10_makesRoom_20 : decode cX10_makesRoom 20 = .ok (.iconst 3, 1) := by decide +kernel
theorem dX10_makesRoom_21 : decode cX10_makesRoom 21 = .ok (.dup2, 1) := by decide +kernel
theorem dX10_makesRoom_22 : decode cX10_makesRoom 22 = .ok (.iaload, 1) := by decide +kernel
theorem dX10_makesRoom_23 : decode cX10_makesRoom 23 = .ok (.iconst 1, 1) := by decide +kernel
theorem dX10_makesRoom_24 : decode cX10_makesRoom 24 = .ok (.iadd, 1) := by decide +kernel
theorem dX10_makesRoom_25 : decode cX10_makesRoom 25 = .ok (.iastore, 1) := by decide +kernel
theorem dX10_makesRoom_26 : decode cX10_makesRoom 26 = .ok (.goto (-26), 3) := by decide +kernel
theorem dX10_makesRoom_29 : decode cX10_makesRoom 29 = .ok (.return_, 1) := by decide +kernel
theorem dX10_more_0 : decode cX10_more 0 = .ok (.ldc2_w 235, 3) := by decide +kernel
theorem dX10_more_3 : decode cX10_more 3 = .ok (.lload_n 0, 1) := by decide +kernel
theorem dX10_more_4 : decode cX10_more 4 = .ok (.lmul, 1) := by decide +kernel
theorem dX10_more_5 : decode cX10_more 5 = .ok (.iload_n 2, 1) := by decide +kernel
theorem dX10_more_6 : decode cX10_more 6 = .ok (.i2l, 1) := by decide +kernel
theorem dX10_more_7 : decode cX10_more 7 = .ok (.ladd, 1) := by decide +kernel
theorem dX10_more_8 : decode cX10_more 8 = .ok (.lreturn, 1) := by decide +kernel
theorem dX10_node_0 : decode cX10_node 0 = .ok (.aload_n 0, 1) := by decide +kernel
theorem dX10_node_1 : decode cX10_node 1 = .ok (.iload_n 1, 1) := by decide +kernel
theorem dX10_node_2 : decode cX10_node 2 = .ok (.invokevirtual 77, 3) := by decide +kernel
theorem dX10_node_5 : decode cX10_node 5 = .ok (.ifCond .ne 7, 3) := by decide +kernel
theorem dX10_node_8 : decode cX10_node 8 = .ok (.sipush (-1001), 3) := by decide +kernel
theorem dX10_node_11 : decode cX10_node 11 = .ok (.ireturn, 1) := by decide +kernel
theorem dX10_node_12 : decode cX10_node 12 = .ok (.iload_n 2, 1) := by decide +kernel
theorem dX10_node_13 : decode cX10_node 13 = .ok (.iconst 0, 1) := by decide +kernel
theorem dX10_node_14 : decode cX10_node 14 = .ok (.iconst 5, 1) := by decide +kernel
theorem dX10_node_15 : decode cX10_node 15 = .ok (.invokestatic 69, 3) := by decide +kernel
theorem dX10_node_18 : decode cX10_node 18 = .ok (.ifCond .eq 12, 3) := by decide +kernel
theorem dX10_node_21 : decode cX10_node 21 = .ok (.aload_n 0, 1) := by decide +kernel
theorem dX10_node_22 : decode cX10_node 22 = .ok (.iload_n 1, 1) := by decide +kernel
theorem dX10_node_23 : decode cX10_node 23 = .ok (.iload_n 2, 1) := by decide +kernel
theorem dX10_node_24 : decode cX10_node 24 = .ok (.invokevirtual 130, 3) := by decide +kernel
theorem dX10_node_27 : decode cX10_node 27 = .ok (.goto 6, 3) := by decide +kernel
theorem dX10_node_30 : decode cX10_node 30 = .ok (.sipush (-1002), 3) := by decide +kernel
theorem dX10_node_33 : decode cX10_node 33 = .ok (.ireturn, 1) := by decide +kernel
theorem dX10_nodeTells_0 : decode cX10_nodeTells 0 = .ok (.iload_n 2, 1) := by decide +kernel
theorem dX10_nodeTells_1 : decode cX10_nodeTells 1 = .ok (.iconst 3, 1) := by decide +kernel
theorem dX10_nodeTells_2 : decode cX10_nodeTells 2 = .ok (.if_icmp .ge 16, 3) := by decide +kernel
theorem dX10_nodeTells_5 : decode cX10_nodeTells 5 = .ok (.aload_n 0, 1) := by decide +kernel
theorem dX10_nodeTells_6 : decode cX10_nodeTells 6 = .ok (.getfield 7, 3) := by decide +kernel
theorem dX10_nodeTells_9 : decode cX10_nodeTells 9 = .ok (.iload_n 1, 1) := by decide +kernel
theorem dX10_nodeTells_10 : decode cX10_nodeTells 10 = .ok (.iload_n 2, 1) := by decide +kernel
theorem dX10_nodeTells_11 : decode cX10_nodeTells 11 = .ok (.invokestatic 73, 3) := by decide +kernel
theorem dX10_nodeTells_14 : decode cX10_nodeTells 14 = .ok (.iaload, 1) := by decide +kernel
theorem dX10_nodeTells_15 : decode cX10_nodeTells 15 = .ok (.goto 37, 3) := by decide +kernel
theorem dX10_nodeTells_18 : decode cX10_nodeTells 18 = .ok (.iload_n 2, 1) := by decide +kernel
theorem dX10_nodeTells_19 : decode cX10_nodeTells 19 = .ok (.iconst 3, 1) := by decide +kernel
theorem dX10_nodeTells_20 : decode cX10_nodeTells 20 = .ok (.if_icmp .ne 14, 3) := by decide +kernel
theorem dX10_nodeTells_23 : decode cX10_nodeTells 23 = .ok (.aload_n 0, 1) := by decide +kernel
theorem dX10_nodeTells_24 : decode cX10_nodeTells 24 = .ok (.iload_n 1, 1) := by decide +kernel
theorem dX10_nodeTells_25 : decode cX10_nodeTells 25 = .ok (.invokevirtual 94, 3) := by decide +kernel
theorem dX10_nodeTells_28 : decode cX10_nodeTells 28 = .ok (.invokestatic 121, 3) := by decide +kernel
theorem dX10_nodeTells_31 : decode cX10_nodeTells 31 = .ok (.goto 21, 3) := by decide +kernel
theorem dX10_nodeTells_34 : decode cX10_nodeTells 34 = .ok (.iload_n 2, 1) := by decide +kernel
theorem dX10_nodeTells_35 : decode cX10_nodeTells 35 = .ok (.iconst 4, 1) := by decide +kernel
theorem dX10_nodeTells_36 : decode cX10_nodeTells 36 = .ok (.if_icmp .ne 11, 3) := by decide +kernel
theorem dX10_nodeTells_39 : decode cX10_nodeTells 39 = .ok (.aload_n 0, 1) := by decide +kernel
theorem dX10_nodeTells_40 : decode cX10_nodeTells 40 = .ok (.iload_n 1, 1) := by decide +kernel
theorem dX10_nodeTells_41 : decode cX10_nodeTells 41 = .ok (.invokevirtual 124, 3) := by decide +kernel
theorem dX10_nodeTells_44 : decode cX10_nodeTells 44 = .ok (.goto 8, 3) := by decide +kernel
theorem dX10_nodeTells_47 : decode cX10_nodeTells 47 = .ok (.aload_n 0, 1) := by decide +kernel
theorem dX10_nodeTells_48 : decode cX10_nodeTells 48 = .ok (.iload_n 1, 1) := by decide +kernel
theorem dX10_nodeTells_49 : decode cX10_nodeTells 49 = .ok (.invokevirtual 127, 3) := by decide +kernel
theorem dX10_nodeTells_52 : decode cX10_nodeTells 52 = .ok (.ireturn, 1) := by decide +kernel
theorem dX10_nodes_0 : decode cX10_nodes 0 = .ok (.aload_n 0, 1) := by decide +kernel
theorem dX10_nodes_1 : decode cX10_nodes 1 = .ok (.getfield 7, 3) := by decide +kernel
theorem dX10_nodes_4 : decode cX10_nodes 4 = .ok (.iconst 0, 1) := by decide +kernel
theorem dX10_nodes_5 : decode cX10_nodes 5 = .ok (.iaload, 1) := by decide +kernel
theorem dX10_nodes_6 : decode cX10_nodes 6 = .ok (.ireturn, 1) := by decide +kernel
theorem dX10_number_0 : decode cX10_number 0 = .ok (.aload_n 0, 1) := by decide +kernel
theorem dX10_number_1 : decode cX10_number 1 = .ok (.getfield 193, 3) := by decide +kernel
theorem dX10_number_4 : decode cX10_number 4 = .ok (.istore_n 3, 1) := by decide +kernel
theorem dX10_number_5 : decode cX10_number 5 = .ok (.aload_n 0, 1) := by decide +kernel
theorem dX10_number_6 : decode cX10_number 6 = .ok (.invokevirtual 199, 3) := by decide +kernel
theorem dX10_number_9 : decode cX10_number 9 = .ok (.ifCond .ne 5, 3) := by decide +kernel
theorem dX10_number_12 : decode cX10_number 12 = .ok (.iconst 0, 1) := by decide +kernel
theorem dX10_number_13 : decode cX10_number 13 = .ok (.ireturn, 1) := by decide +kernel
theorem dX10_number_14 : decode cX10_number 14 = .ok (.aload_n 0, 1) := by decide +kernel
theorem dX10_number_15 : decode cX10_number 15 = .ok (.aload_n 0, 1) := by decide +kernel
theorem dX10_number_16 : decode cX10_number 16 = .ok (.invokevirtual 196, 3) := by decide +kernel
theorem dX10_number_19 : decode cX10_number 19 = .ok (.bipush 48, 2) := by decide +kernel
theorem dX10_number_21 : decode cX10_number 21 = .ok (.isub, 1) := by decide +kernel
theorem dX10_number_22 : decode cX10_number 22 = .ok (.putfield 203, 3) := by decide +kernel
theorem dX10_number_25 : decode cX10_number 25 = .ok (.aload_n 0, 1) := by decide +kernel
theorem dX10_number_26 : decode cX10_number 26 = .ok (.dup, 1) := by decide +kernel
theorem dX10_number_27 : decode cX10_number 27 = .ok (.getfield 193, 3) := by decide +kernel
theorem dX10_number_30 : decode cX10_number 30 = .ok (.iconst 1, 1) := by decide +kernel
theorem dX10_number_31 : decode cX10_number 31 = .ok (.iadd, 1) := by decide +kernel
theorem dX10_number_32 : decode cX10_number 32 = .ok (.putfield 193, 3) := by decide +kernel
theorem dX10_number_35 : decode cX10_number 35 = .ok (.aload_n 0, 1) := by decide +kernel
theorem dX10_number_36 : decode cX10_number 36 = .ok (.getfield 203, 3) := by decide +kernel
theorem dX10_number_39 : decode cX10_number 39 = .ok (.ifCond .ne 7, 3) := by decide +kernel
theorem dX10_number_42 : decode cX10_number 42 = .ok (.iconst 1, 1) := by decide +kernel
theorem dX10_number_43 : decode cX10_number 43 = .ok (.goto 4, 3) := by decide +kernel
theorem dX10_number_46 : decode cX10_number 46 = .ok (.iconst 0, 1) := by decide +kernel
theorem dX10_number_47 : decode cX10_number 47 = .ok (.istore 4, 2) := by decide +kernel
theorem dX10_number_49 : decode cX10_number 49 = .ok (.iload 4, 2) := by decide +kernel
theorem dX10_number_51 : decode cX10_number 51 = .ok (.ifCond .ne 52, 3) := by decide +kernel
theorem dX10_number_54 : decode cX10_number 54 = .ok (.aload_n 0, 1) := by decide +kernel
theorem dX10_number_55 : decode cX10_number 55 = .ok (.getfield 193, 3) := by decide +kernel
theorem dX10_number_58 : decode cX10_number 58 = .ok (.iload_n 3, 1) := by decide +kernel
theorem dX10_number_59 : decode cX10_number 59 = .ok (.iconst 3, 1) := by decide +kernel
theorem dX10_number_60 : decode cX10_number 60 = .ok (.iadd, 1) := by decide +kernel
theorem dX10_number_61 : decode cX10_number 61 = .ok (.if_icmp .ge 42, 3) := by decide +kernel
theorem dX10_number_64 : decode cX10_number 64 = .ok (.aload_n 0, 1) := by decide +kernel
theorem dX10_number_65 : decode cX10_number 65 = .ok (.invokevirtual 199, 3) := by decide +kernel
theorem dX10_number_68 : decode cX10_number 68 = .ok (.ifCond .eq 35, 3) := by decide +kernel
theorem dX10_number_71 : decode cX10_number 71 = .ok (.aload_n 0, 1) := by decide +kernel
theorem dX10_number_72 : decode cX10_number 72 = .ok (.bipush 10, 2) := by decide +kernel
theorem dX10_number_74 : decode cX10_number 74 = .ok (.aload_n 0, 1) := by decide +kernel
theorem dX10_number_75 : decode cX10_number 75 = .ok (.getfield 203, 3) := by decide +kernel
theorem dX10_number_78 : decode cX10_number 78 = .ok (.imul, 1) := by decide +kernel
theorem dX10_number_79 : decode cX10_number 79 = .ok (.aload_n 0, 1) := by decide +kernel
theorem dX10_number_80 : decode cX10_number 80 = .ok (.invokevirtual 196, 3) := by decide +kernel
theorem dX10_number_83 : decode cX10_number 83 = .ok (.iadd, 1) := by decide +kernel
theorem dX10_number_84 : decode cX10_number 84 = .ok (.bipush 48, 2) := by decide +kernel
theorem dX10_number_86 : decode cX10_number 86 = .ok (.isub, 1) := by decide +kernel
theorem dX10_number_87 : decode cX10_number 87 = .ok (.putfield 203, 3) := by decide +kernel
theorem dX10_number_90 : decode cX10_number 90 = .ok (.aload_n 0, 1) := by decide +kernel
theorem dX10_number_91 : decode cX10_number 91 = .ok (.dup, 1) := by decide +kernel
theorem dX10_number_92 : decode cX10_number 92 = .ok (.getfield 193, 3) := by decide +kernel
theorem dX10_number_95 : decode cX10_number 95 = .ok (.iconst 1, 1) := by decide +kernel
theorem dX10_number_96 : decode cX10_number 96 = .ok (.iadd, 1) := by decide +kernel
theorem dX10_number_97 : decode cX10_number 97 = .ok (.putfield 193, 3) := by decide +kernel
theorem dX10_number_100 : decode cX10_number 100 = .ok (.goto (-51), 3) := by decide +kernel
theorem dX10_number_103 : decode cX10_number 103 = .ok (.aload_n 0, 1) := by decide +kernel
theorem dX10_number_104 : decode cX10_number 104 = .ok (.getfield 203, 3) := by decide +kernel
theorem dX10_number_107 : decode cX10_number 107 = .ok (.iload_n 1, 1) := by decide +kernel
theorem dX10_number_108 : decode cX10_number 108 = .ok (.iload_n 2, 1) := by decide +kernel
theorem dX10_number_109 : decode cX10_number 109 = .ok (.invokestatic 69, 3) := by decide +kernel
theorem dX10_number_112 : decode cX10_number 112 = .ok (.istore 5, 2) := by decide +kernel
theorem dX10_number_114 : decode cX10_number 114 = .ok (.aload_n 0, 1) := by decide +kernel
theorem dX10_number_115 : decode cX10_number 115 = .ok (.iload 5, 2) := by decide +kernel
theorem dX10_number_117 : decode cX10_number 117 = .ok (.ifCond .eq 10, 3) := by decide +kernel
theorem dX10_number_120 : decode cX10_number 120 = .ok (.aload_n 0, 1) := by decide +kernel
theorem dX10_number_121 : decode cX10_number 121 = .ok (.getfield 193, 3) := by decide +kernel
theorem dX10_number_124 : decode cX10_number 124 = .ok (.goto 4, 3) := by decide +kernel
theorem dX10_number_127 : decode cX10_number 127 = .ok (.iload_n 3, 1) := by decide +kernel
theorem dX10_number_128 : decode cX10_number 128 = .ok (.putfield 193, 3) := by decide +kernel
theorem dX10_number_131 : decode cX10_number 131 = .ok (.iload 5, 2) := by decide +kernel
theorem dX10_number_133 : decode cX10_number 133 = .ok (.ireturn, 1) := by decide +kernel
theorem dX10_oldest_0 : decode cX10_oldest 0 = .ok (.iconst 0, 1) := by decide +kernel
theorem dX10_oldest_1 : decode cX10_oldest 1 = .ok (.istore_n 1, 1) := by decide +kernel
theorem dX10_oldest_2 : decode cX10_oldest 2 = .ok (.iconst 1, 1) := by decide +kernel
theorem dX10_oldest_3 : decode cX10_oldest 3 = .ok (.istore_n 2, 1) := by decide +kernel
theorem dX10_oldest_4 : decode cX10_oldest 4 = .ok (.iload_n 2, 1) := by decide +kernel
theorem dX10_oldest_5 : decode cX10_oldest 5 = .ok (.aload_n 0, 1) := by decide +kernel
theorem dX10_oldest_6 : decode cX10_oldest 6 = .ok (.getfield 85, 3) := by decide +kernel
theorem dX10_oldest_9 : decode cX10_oldest 9 = .ok (.if_icmp .ge 30, 3) := by decide +kernel
theorem dX10_oldest_12 : decode cX10_oldest 12 = .ok (.aload_n 0, 1) := by decide +kernel
theorem dX10_oldest_13 : decode cX10_oldest 13 = .ok (.getfield 30, 3) := by decide +kernel
theorem dX10_oldest_16 : decode cX10_oldest 16 = .ok (.iload_n 2, 1) := by decide +kernel
theorem dX10_oldest_17 : decode cX10_oldest 17 = .ok (.iaload, 1) := by decide +kernel
theorem dX10_oldest_18 : decode cX10_oldest 18 = .ok (.aload_n 0, 1) := by decide +kernel
theorem dX10_oldest_19 : decode cX10_oldest 19 = .ok (.getfield 30, 3) := by decide +kernel
theorem dX10_oldest_22 : decode cX10_oldest 22 = .ok (.iload_n 1, 1) := by decide +kernel
theorem dX10_oldest_23 : decode cX10_oldest 23 = .ok (.iaload, 1) := by decide +kernel
theorem dX10_oldest_24 : decode cX10_oldest 24 = .ok (.if_icmp .ge 7, 3) := by decide +kernel
theorem dX10_oldest_27 : decode cX10_oldest 27 = .ok (.iload_n 2, 1) := by decide +kernel
theorem dX10_oldest_28 : decode cX10_oldest 28 = .ok (.goto 4, 3) := by decide +kernel
theorem dX10_oldest_31 : decode cX10_oldest 31 = .ok (.iload_n 1, 1) := by decide +kernel
theorem dX10_oldest_32 : decode cX10_oldest 32 = .ok (.istore_n 1, 1) := by decide +kernel
theorem dX10_oldest_33 : decode cX10_oldest 33 = .ok (.iinc 2 1, 3) := by decide +kernel
theorem dX10_oldest_36 : decode cX10_oldest 36 = .ok (.goto (-32), 3) := by decide +kernel
theorem dX10_oldest_39 : decode cX10_oldest 39 = .ok (.iload_n 1, 1) := by decide +kernel
theorem dX10_oldest_40 : decode cX10_oldest 40 = .ok (.ireturn, 1) := by decide +kernel
theorem dX10_parameter_0 : decode cX10_parameter 0 = .ok (.aload_n 0, 1) := by decide +kernel
theorem dX10_parameter_1 : decode cX10_parameter 1 = .ok (.iload_n 1, 1) := by decide +kernel
theorem dX10_parameter_2 : decode cX10_parameter 2 = .ok (.iload_n 2, 1) := by decide +kernel
theorem dX10_parameter_3 : decode cX10_parameter 3 = .ok (.invokevirtual 109, 3) := by decide +kernel
theorem dX10_parameter_6 : decode cX10_parameter 6 = .ok (.ifCond .eq 19, 3) := by decide +kernel
theorem dX10_parameter_9 : decode cX10_parameter 9 = .ok (.aload_n 0, 1) := by decide +kernel
theorem dX10_parameter_10 : decode cX10_parameter 10 = .ok (.getfield 7, 3) := by decide +kernel
theorem dX10_parameter_13 : decode cX10_parameter 13 = .ok (.iload_n 1, 1) := by decide +kernel
theorem dX10_parameter_14 : decode cX10_parameter 14 = .ok (.bipush 6, 2) := by decide +kernel
theorem dX10_parameter_16 : decode cX10_parameter 16 = .ok (.iload_n 2, 1) := by decide +kernel
theorem dX10_parameter_17 : decode cX10_parameter 17 = .ok (.iadd, 1) := by decide +kernel
theorem dX10_parameter_18 : decode cX10_parameter 18 = .ok (.invokestatic 73, 3) := by decide +kernel
theorem dX10_parameter_21 : decode cX10_parameter 21 = .ok (.iaload, 1) := by decide +kernel
theorem dX10_parameter_22 : decode cX10_parameter 22 = .ok (.goto 6, 3) := by decide +kernel
theorem dX10_parameter_25 : decode cX10_parameter 25 = .ok (.sipush (-1001), 3) := by decide +kernel
theorem dX10_parameter_28 : decode cX10_parameter 28 = .ok (.ireturn, 1) := by decide +kernel
theorem dX10_picture_0 : decode cX10_picture 0 = .ok (.aload_n 0, 1) := by decide +kernel
theorem dX10_picture_1 : decode cX10_picture 1 = .ok (.iconst 0, 1) := by decide +kernel
theorem dX10_picture_2 : decode cX10_picture 2 = .ok (.putfield 145, 3) := by decide +kernel
theorem dX10_picture_5 : decode cX10_picture 5 = .ok (.aload_n 0, 1) := by decide +kernel
theorem dX10_picture_6 : decode cX10_picture 6 = .ok (.iload_n 1, 1) := by decide +kernel
theorem dX10_picture_7 : decode cX10_picture 7 = .ok (.iload_n 2, 1) := by decide +kernel
theorem dX10_picture_8 : decode cX10_picture 8 = .ok (.invokevirtual 148, 3) := by decide +kernel
theorem dX10_picture_11 : decode cX10_picture 11 = .ok (.aload_n 0, 1) := by decide +kernel
theorem dX10_picture_12 : decode cX10_picture 12 = .ok (.getfield 145, 3) := by decide +kernel
theorem dX10_picture_15 : decode cX10_picture 15 = .ok (.ifCond .le 141, 3) := by decide +kernel
theorem dX10_picture_18 : decode cX10_picture 18 = .ok (.aload_n 0, 1) := by decide +kernel
theorem dX10_picture_19 : decode cX10_picture 19 = .ok (.getfield 51, 3) := by decide +kernel
theorem dX10_picture_22 : decode cX10_picture 22 = .ok (.aload_n 0, 1) := by decide +kernel
theorem dX10_picture_23 : decode cX10_picture 23 = .ok (.getfield 145, 3) := by decide +kernel
theorem dX10_picture_26 : decode cX10_picture 26 = .ok (.iconst 1, 1) := by decide +kernel
theorem dX10_picture_27 : decode cX10_picture 27 = .ok (.isub, 1) := by decide +kernel
theorem dX10_picture_28 : decode cX10_picture 28 = .ok (.iaload, 1) := by decide +kernel
theorem dX10_picture_29 : decode cX10_picture 29 = .ok (.istore_n 3, 1) := by decide +kernel
theorem dX10_picture_30 : decode cX10_picture 30 = .ok (.aload_n 0, 1) := by decide +kernel
theorem dX10_picture_31 : decode cX10_picture 31 = .ok (.getfield 54, 3) := by decide +kernel
theorem dX10_picture_34 : decode cX10_picture 34 = .ok (.aload_n 0, 1) := by decide +kernel
theorem dX10_picture_35 : decode cX10_picture 35 = .ok (.getfield 145, 3) := by decide +kernel
theorem dX10_picture_38 : decode cX10_picture 38 = .ok (.iconst 1, 1) := by decide +kernel
theorem dX10_picture_39 : decode cX10_picture 39 = .ok (.isub, 1) := by decide +kernel
theorem dX10_picture_40 : decode cX10_picture 40 = .ok (.iaload, 1) := by decide +kernel
theorem dX10_picture_41 : decode cX10_picture 41 = .ok (.istore 4, 2) := by decide +kernel
theorem dX10_picture_43 : decode cX10_picture 43 = .ok (.aload_n 0, 1) := by decide +kernel
theorem dX10_picture_44 : decode cX10_picture 44 = .ok (.iload_n 3, 1) := by decide +kernel
theorem dX10_picture_45 : decode cX10_picture 45 = .ok (.iload_n 2, 1) := by decide +kernel
theorem dX10_picture_46 : decode cX10_picture 46 = .ok (.invokevirtual 152, 3) := by decide +kernel
theorem dX10_picture_49 : decode cX10_picture 49 = .ok (.ifCond .eq 16, 3) := by decide +kernel
theorem dX10_picture_52 : decode cX10_picture 52 = .ok (.aload_n 0, 1) := by decide +kernel
theorem dX10_picture_53 : decode cX10_picture 53 = .ok (.getfield 42, 3) := by decide +kernel
theorem dX10_picture_56 : decode cX10_picture 56 = .ok (.aload_n 0, 1) := by decide +kernel
theorem dX10_picture_57 : decode cX10_picture 57 = .ok (.iload_n 3, 1) := by decide +kernel
theorem dX10_picture_58 : decode cX10_picture 58 = .ok (.invokevirtual 81, 3) := by decide +kernel
theorem dX10_picture_61 : decode cX10_picture 61 = .ok (.iaload, 1) := by decide +kernel
theorem dX10_picture_62 : decode cX10_picture 62 = .ok (.goto 21, 3) := by decide +kernel
theorem dX10_picture_65 : decode cX10_picture 65 = .ok (.aload_n 0, 1) := by decide +kernel
theorem dX10_picture_66 : decode cX10_picture 66 = .ok (.getfield 42, 3) := by decide +kernel
theorem dX10_picture_69 : decode cX10_picture 69 = .ok (.aload_n 0, 1) := by decide +kernel
theorem dX10_picture_70 : decode cX10_picture 70 = .ok (.iload_n 3, 1) := by decide +kernel
theorem dX10_picture_71 : decode cX10_picture 71 = .ok (.invokevirtual 81, 3) := by decide +kernel
theorem dX10_picture_74 : decode cX10_picture 74 = .ok (.iaload, 1) := by decide +kernel
theorem dX10_picture_75 : decode cX10_picture 75 = .ok (.ifCond .le 7, 3) := by decide +kernel
theorem dX10_picture_78 : decode cX10_picture 78 = .ok (.iconst 1, 1) := by decide +kernel
theorem dX10_picture_79 : decode cX10_picture 79 = .ok (.goto 4, 3) := by decide +kernel
theorem dX10_picture_82 : decode cX10_picture 82 = .ok (.iconst 0, 1) := by decide +kernel
theorem dX10_picture_83 : decode cX10_picture 83 = .ok (.istore 5, 2) := by decide +kernel
theorem dX10_picture_85 : decode cX10_picture 85 = .ok (.iload 4, 2) := by decide +kernel
theorem dX10_picture_87 : decode cX10_picture 87 = .ok (.iload 5, 2) := by decide +kernel
theorem dX10_picture_89 : decode cX10_picture 89 = .ok (.if_icmp .ge 48, 3) := by decide +kernel
theorem dX10_picture_92 : decode cX10_picture 92 = .ok (.aload_n 0, 1) := by decide +kernel
theorem dX10_picture_93 : decode cX10_picture 93 = .ok (.getfield 54, 3) := by decide +kernel
theorem dX10_picture_96 : decode cX10_picture 96 = .ok (.aload_n 0, 1) := by decide +kernel
theorem dX10_picture_97 : decode cX10_picture 97 = .ok (.getfield 145, 3) := by decide +kernel
theorem dX10_picture_100 : decode cX10_picture 100 = .ok (.iconst 1, 1) := by decide +kernel
theorem dX10_picture_101 : decode cX10_picture 101 = .ok (.isub, 1) := by decide +kernel
theorem dX10_picture_102 : decode cX10_picture 102 = .ok (.dup2, 1) := by decide +kernel
theorem dX10_picture_103 : decode cX10_picture 103 = .ok (.iaload, 1) := by decide +kernel
theorem dX10_picture_104 : decode cX10_picture 104 = .ok (.iconst 1, 1) := by decide +kernel
theorem dX10_picture_105 : decode cX10_picture 105 = .ok (.iadd, 1) := by decide +kernel
theorem dX10_picture_106 : decode cX10_picture 106 = .ok (.iastore, 1) := by decide +kernel
theorem dX10_picture_107 : decode cX10_picture 107 = .ok (.aload_n 0, 1) := by decide +kernel
theorem dX10_picture_108 : decode cX10_picture 108 = .ok (.getfield 7, 3) := by decide +kernel
theorem dX10_picture_111 : decode cX10_picture 111 = .ok (.iload_n 3, 1) := by decide +kernel
theorem dX10_picture_112 : decode cX10_picture 112 = .ok (.iconst 3, 1) := by decide +kernel
theorem dX10_picture_113 : decode cX10_picture 113 = .ok (.iload 4, 2) := by decide +kernel
theorem dX10_picture_115 : decode cX10_picture 115 = .ok (.iadd, 1) := by decide +kernel
theorem dX10_picture_116 : decode cX10_picture 116 = .ok (.invokestatic 73, 3) := by decide +kernel
theorem dX10_picture_119 : decode cX10_picture 119 = .ok (.iaload, 1) := by decide +kernel
theorem dX10_picture_120 : decode cX10_picture 120 = .ok (.istore 6, 2) := by decide +kernel
theorem dX10_picture_122 : decode cX10_picture 122 = .ok (.iload 6, 2) := by decide +kernel
theorem dX10_picture_124 : decode cX10_picture 124 = .ok (.ifCond .lt 10, 3) := by decide +kernel
theorem dX10_picture_127 : decode cX10_picture 127 = .ok (.aload_n 0, 1) := by decide +kernel
theorem dX10_picture_128 : decode cX10_picture 128 = .ok (.iload 6, 2) := by decide +kernel
theorem dX10_picture_130 : decode cX10_picture 130 = .ok (.iload_n 2, 1) := by decide +kernel
theorem dX10_picture_131 : decode cX10_picture 131 = .ok (.invokevirtual 148, 3) := by decide +kernel
theorem dX10_picture_134 : decode cX10_picture 134 = .ok (.goto 19, 3) := by decide +kernel
theorem dX10_picture_137 : decode cX10_picture 137 = .ok (.aload_n 0, 1) := by decide +kernel
theorem dX10_picture_138 : decode cX10_picture 138 = .ok (.iload_n 3, 1) := by decide +kernel
theorem dX10_picture_139 : decode cX10_picture 139 = .ok (.iload_n 2, 1) := by decide +kernel
theorem dX10_picture_140 : decode cX10_picture 140 = .ok (.invokevirtual 155, 3) := by decide +kernel
theorem dX10_picture_143 : decode cX10_picture 143 = .ok (.aload_n 0, 1) := by decide +kernel
theorem dX10_picture_144 : decode cX10_picture 144 = .ok (.dup, 1) := by decide +kernel
theorem dX10_picture_145 : decode cX10_picture 145 = .ok (.getfield 145, 3) := by decide +kernel
theorem dX10_picture_148 : decode cX10_picture 148 = .ok (.iconst 1, 1) := by decide +kernel
theorem dX10_picture_149 : decode cX10_picture 149 = .ok (.isub, 1) := by decide +kernel
theorem dX10_picture_150 : decode cX10_picture 150 = .ok (.putfield 145, 3) := by decide +kernel
theorem dX10_picture_153 : decode cX10_picture 153 = .ok (.goto (-142), 3) := by decide +kernel
theorem dX10_picture_156 : decode cX10_picture 156 = .ok (.aload_n 0, 1) := by decide +kernel
theorem dX10_picture_157 : decode cX10_picture 157 = .ok (.iload_n 1, 1) := by decide +kernel
theorem dX10_picture_158 : decode cX10_picture 158 = .ok (.iload_n 2, 1) := by decide +kernel
theorem dX10_picture_159 : decode cX10_picture 159 = .ok (.invokevirtual 140, 3) := by decide +kernel
theorem dX10_picture_162 : decode cX10_picture 162 = .ok (.ireturn, 1) := by decide +kernel
theorem dX10_placeOf_0 : decode cX10_placeOf 0 = .ok (.iconst 0, 1) := by decide +kernel
theorem dX10_placeOf_1 : decode cX10_placeOf 1 = .ok (.istore_n 2, 1) := by decide +kernel
theorem dX10_placeOf_2 : decode cX10_placeOf 2 = .ok (.iconst 0, 1) := by decide +kernel
theorem dX10_placeOf_3 : decode cX10_placeOf 3 = .ok (.istore_n 3, 1) := by decide +kernel
theorem dX10_placeOf_4 : decode cX10_placeOf 4 = .ok (.iconst 0, 1) := by decide +kernel
theorem dX10_placeOf_5 : decode cX10_placeOf 5 = .ok (.istore 4, 2) := by decide +kernel
theorem dX10_placeOf_7 : decode cX10_placeOf 7 = .ok (.iload_n 2, 1) := by decide +kernel
theorem dX10_placeOf_8 : decode cX10_placeOf 8 = .ok (.iload 4, 2) := by decide +kernel
theorem dX10_placeOf_10 : decode cX10_placeOf 10 = .ok (.ishr, 1) := by decide +kernel
theorem dX10_placeOf_11 : decode cX10_placeOf 11 = .ok (.iconst 1, 1) := by decide +kernel
theorem dX10_placeOf_12 : decode cX10_placeOf 12 = .ok (.iand, 1) := by decide +kernel
theorem dX10_placeOf_13 : decode cX10_placeOf 13 = .ok (.iconst 1, 1) := by decide +kernel
theorem dX10_placeOf_14 : decode cX10_placeOf 14 = .ok (.if_icmp .eq 13, 3) := by decide +kernel
theorem dX10_placeOf_17 : decode cX10_placeOf 17 = .ok (.aload_n 0, 1) := by decide +kernel
theorem dX10_placeOf_18 : decode cX10_placeOf 18 = .ok (.iload 4, 2) := by decide +kernel
theorem dX10_placeOf_20 : decode cX10_placeOf 20 = .ok (.iload_n 2, 1) := by decide +kernel
theorem dX10_placeOf_21 : decode cX10_placeOf 21 = .ok (.invokevirtual 118, 3) := by decide +kernel
theorem dX10_placeOf_24 : decode cX10_placeOf 24 = .ok (.ifCond .ne 9, 3) := by decide +kernel
theorem dX10_placeOf_27 : decode cX10_placeOf 27 = .ok (.iinc 4 1, 3) := by decide +kernel
theorem dX10_placeOf_30 : decode cX10_placeOf 30 = .ok (.goto (-23), 3) := by decide +kernel
theorem dX10_placeOf_33 : decode cX10_placeOf 33 = .ok (.iload 4, 2) := by decide +kernel
theorem dX10_placeOf_35 : decode cX10_placeOf 35 = .ok (.iload_n 1, 1) := by decide +kernel
theorem dX10_placeOf_36 : decode cX10_placeOf 36 = .ok (.if_icmp .ne 5, 3) := by decide +kernel
theorem dX10_placeOf_39 : decode cX10_placeOf 39 = .ok (.iload_n 3, 1) := by decide +kernel
theorem dX10_placeOf_40 : decode cX10_placeOf 40 = .ok (.ireturn, 1) := by decide +kernel
theorem dX10_placeOf_41 : decode cX10_placeOf 41 = .ok (.iload_n 2, 1) := by decide +kernel
theorem dX10_placeOf_42 : decode cX10_placeOf 42 = .ok (.iconst 1, 1) := by decide +kernel
theorem dX10_placeOf_43 : decode cX10_placeOf 43 = .ok (.iload 4, 2) := by decide +kernel
theorem dX10_placeOf_45 : decode cX10_placeOf 45 = .ok (.ishl, 1) := by decide +kernel
theorem dX10_placeOf_46 : decode cX10_placeOf 46 = .ok (.ior, 1) := by decide +kernel
theorem dX10_placeOf_47 : decode cX10_placeOf 47 = .ok (.istore_n 2, 1) := by decide +kernel
theorem dX10_placeOf_48 : decode cX10_placeOf 48 = .ok (.iinc 3 1, 3) := by decide +kernel
theorem dX10_placeOf_51 : decode cX10_placeOf 51 = .ok (.goto (-47), 3) := by decide +kernel
theorem dX10_restore_0 : decode cX10_restore 0 = .ok (.iload_n 1, 1) := by decide +kernel
theorem dX10_restore_1 : decode cX10_restore 1 = .ok (.iconst 0, 1) := by decide +kernel
theorem dX10_restore_2 : decode cX10_restore 2 = .ok (.iconst 1, 1) := by decide +kernel
theorem dX10_restore_3 : decode cX10_restore 3 = .ok (.invokestatic 69, 3) := by decide +kernel
theorem dX10_restore_6 : decode cX10_restore 6 = .ok (.ifCond .ne 7, 3) := by decide +kernel
theorem dX10_restore_9 : decode cX10_restore 9 = .ok (.sipush (-1001), 3) := by decide +kernel
theorem dX10_restore_12 : decode cX10_restore 12 = .ok (.ireturn, 1) := by decide +kernel
theorem dX10_restore_13 : decode cX10_restore 13 = .ok (.aload_n 0, 1) := by decide +kernel
theorem dX10_restore_14 : decode cX10_restore 14 = .ok (.getfield 16, 3) := by decide +kernel
theorem dX10_restore_17 : decode cX10_restore 17 = .ok (.iload_n 1, 1) := by decide +kernel
theorem dX10_restore_18 : decode cX10_restore 18 = .ok (.baload, 1) := by decide +kernel
theorem dX10_restore_19 : decode cX10_restore 19 = .ok (.ifCond .ne 7, 3) := by decide +kernel
theorem dX10_restore_22 : decode cX10_restore 22 = .ok (.sipush (-1003), 3) := by decide +kernel
theorem dX10_restore_25 : decode cX10_restore 25 = .ok (.ireturn, 1) := by decide +kernel
theorem dX10_restore_26 : decode cX10_restore 26 = .ok (.iconst 0, 1) := by decide +kernel
theorem dX10_restore_27 : decode cX10_restore 27 = .ok (.istore_n 2, 1) := by decide +kernel
theorem dX10_restore_28 : decode cX10_restore 28 = .ok (.iload_n 2, 1) := by decide +kernel
theorem dX10_restore_29 : decode cX10_restore 29 = .ok (.bipush 121, 2) := by decide +kernel
theorem dX10_restore_31 : decode cX10_restore 31 = .ok (.if_icmp .ge 26, 3) := by decide +kernel
theorem dX10_restore_34 : decode cX10_restore 34 = .ok (.aload_n 0, 1) := by decide +kernel
theorem dX10_restore_35 : decode cX10_restore 35 = .ok (.getfield 7, 3) := by decide +kernel
theorem dX10_restore_38 : decode cX10_restore 38 = .ok (.iload_n 2, 1) := by decide +kernel
theorem dX10_restore_39 : decode cX10_restore 39 = .ok (.aload_n 0, 1) := by decide +kernel
theorem dX10_restore_40 : decode cX10_restore 40 = .ok (.getfield 13, 3) := by decide +kernel
theorem dX10_restore_43 : decode cX10_restore 43 = .ok (.bipush 121, 2) := by decide +kernel
theorem dX10_restore_45 : decode cX10_restore 45 = .ok (.iload_n 1, 1) := by decide +kernel
theorem dX10_restore_46 : decode cX10_restore 46 = .ok (.imul, 1) := by decide +kernel
theorem dX10_restore_47 : decode cX10_restore 47 = .ok (.iload_n 2, 1) := by decide +kernel
theorem dX10_restore_48 : decode cX10_restore 48 = .ok (.iadd, 1) := by decide +kernel
theorem dX10_restore_49 : decode cX10_restore 49 = .ok (.iaload, 1) := by decide +kernel
theorem dX10_restore_50 : decode cX10_restore 50 = .ok (.iastore, 1) := by decide +kernel
theorem dX10_restore_51 : decode cX10_restore 51 = .ok (.iinc 2 1, 3) := by decide +kernel
theorem dX10_restore_54 : decode cX10_restore 54 = .ok (.goto (-26), 3) := by decide +kernel
theorem dX10_restore_57 : decode cX10_restore 57 = .ok (.aload_n 0, 1) := by decide +kernel
theorem dX10_restore_58 : decode cX10_restore 58 = .ok (.iconst 0, 1) := by decide +kernel
theorem dX10_restore_59 : decode cX10_restore 59 = .ok (.putfield 85, 3) := by decide +kernel
theorem dX10_restore_62 : decode cX10_restore 62 = .ok (.aload_n 0, 1) := by decide +kernel
theorem dX10_restore_63 : decode cX10_restore 63 = .ok (.getfield 7, 3) := by decide +kernel
theorem dX10_restore_66 : decode cX10_restore 66 = .ok (.iconst 0, 1) := by decide +kernel
theorem dX10_restore_67 : decode cX10_restore 67 = .ok (.iaload, 1) := by decide +kernel
theorem dX10_restore_68 : decode cX10_restore 68 = .ok (.ireturn, 1) := by decide +kernel
theorem dX10_save_0 : decode cX10_save 0 = .ok (.iload_n 1, 1) := by decide +kernel
theorem dX10_save_1 : decode cX10_save 1 = .ok (.iconst 0, 1) := by decide +kernel
theorem dX10_save_2 : decode cX10_save 2 = .ok (.iconst 1, 1) := by decide +kernel
theorem dX10_save_3 : decode cX10_save 3 = .ok (.invokestatic 69, 3) := by decide +kernel
theorem dX10_save_6 : decode cX10_save 6 = .ok (.ifCond .ne 7, 3) := by decide +kernel
theorem dX10_save_9 : decode cX10_save 9 = .ok (.sipush (-1001), 3) := by decide +kernel
theorem dX10_save_12 : decode cX10_save 12 = .ok (.ireturn, 1) := by decide +kernel
theorem dX10_save_13 : decode cX10_save 13 = .ok (.iconst 0, 1) := by decide +kernel
theorem dX10_save_14 : decode cX10_save 14 = .ok (.istore_n 2, 1) := by decide +kernel
theorem dX10_save_15 : decode cX10_save 15 = .ok (.iload_n 2, 1) := by decide +kernel
theorem dX10_save_16 : decode cX10_save 16 = .ok (.bipush 121, 2) := by decide +kernel
theorem dX10_save_18 : decode cX10_save 18 = .ok (.if_icmp .ge 26, 3) := by decide +kernel
theorem dX10_save_21 : decode cX10_save 21 = .ok (.aload_n 0, 1) := by decide +kernel
theorem dX10_save_22 : decode cX10_save 22 = .ok (.getfield 13, 3) := by decide +kernel
theorem dX10_save_25 : decode cX10_save 25 = .ok (.bipush 121, 2) := by decide +kernel
theorem dX10_save_27 : decode cX10_save 27 = .ok (.iload_n 1, 1) := by decide +kernel
theorem dX10_save_28 : decode cX10_save 28 = .ok (.imul, 1) := by decide +kernel
theorem dX10_save_29 : decode cX10_save 29 = .ok (.iload_n 2, 1) := by decide +kernel
theorem dX10_save_30 : decode cX10_save 30 = .ok (.iadd, 1) := by decide +kernel
theorem dX10_save_31 : decode cX10_save 31 = .ok (.aload_n 0, 1) := by decide +kernel
theorem dX10_save_32 : decode cX10_save 32 = .ok (.getfield 7, 3) := by decide +kernel
theorem dX10_save_35 : decode cX10_save 35 = .ok (.iload_n 2, 1) := by decide +kernel
theorem dX10_save_36 : decode cX10_save 36 = .ok (.iaload, 1) := by decide +kernel
theorem dX10_save_37 : decode cX10_save 37 = .ok (.iastore, 1) := by decide +kernel
theorem dX10_save_38 : decode cX10_save 38 = .ok (.iinc 2 1, 3) := by decide +kernel
theorem dX10_save_41 : decode cX10_save 41 = .ok (.goto (-26), 3) := by decide +kernel
theorem dX10_save_44 : decode cX10_save 44 = .ok (.aload_n 0, 1) := by decide +kernel
theorem dX10_save_45 : decode cX10_save 45 = .ok (.getfield 16, 3) := by decide +kernel
theorem dX10_save_48 : decode cX10_save 48 = .ok (.iload_n 1, 1) := by decide +kernel
theorem dX10_save_49 : decode cX10_save 49 = .ok (.iconst 1, 1) := by decide +kernel
theorem dX10_save_50 : decode cX10_save 50 = .ok (.bastore, 1) := by decide +kernel
theorem dX10_save_51 : decode cX10_save 51 = .ok (.aload_n 0, 1) := by decide +kernel
theorem dX10_save_52 : decode cX10_save 52 = .ok (.getfield 7, 3) := by decide +kernel
theorem dX10_save_55 : decode cX10_save 55 = .ok (.iconst 0, 1) := by decide +kernel
theorem dX10_save_56 : decode cX10_save 56 = .ok (.iaload, 1) := by decide +kernel
theorem dX10_save_57 : decode cX10_save 57 = .ok (.ireturn, 1) := by decide +kernel
theorem dX10_scope_0 : decode cX10_scope 0 = .ok (.aload_n 0, 1) := by decide +kernel
theorem dX10_scope_1 : decode cX10_scope 1 = .ok (.iload_n 1, 1) := by decide +kernel
theorem dX10_scope_2 : decode cX10_scope 2 = .ok (.iload_n 2, 1) := by decide +kernel
theorem dX10_scope_3 : decode cX10_scope 3 = .ok (.invokevirtual 178, 3) := by decide +kernel
theorem dX10_scope_6 : decode cX10_scope 6 = .ok (.ifCond .eq 23, 3) := by decide +kernel
theorem dX10_scope_9 : decode cX10_scope 9 = .ok (.iload_n 3, 1) := by decide +kernel
theorem dX10_scope_10 : decode cX10_scope 10 = .ok (.iconst 0, 1) := by decide +kernel
theorem dX10_scope_11 : decode cX10_scope 11 = .ok (.iconst 2, 1) := by decide +kernel
theorem dX10_scope_12 : decode cX10_scope 12 = .ok (.invokestatic 69, 3) := by decide +kernel
theorem dX10_scope_15 : decode cX10_scope 15 = .ok (.ifCond .eq 14, 3) := by decide +kernel
theorem dX10_scope_18 : decode cX10_scope 18 = .ok (.iload 4, 2) := by decide +kernel
theorem dX10_scope_20 : decode cX10_scope 20 = .ok (.iconst 0, 1) := by decide +kernel
theorem dX10_scope_21 : decode cX10_scope 21 = .ok (.bipush 15, 2) := by decide +kernel
theorem dX10_scope_23 : decode cX10_scope 23 = .ok (.invokestatic 69, 3) := by decide +kernel
theorem dX10_scope_26 : decode cX10_scope 26 = .ok (.ifCond .ne 7, 3) := by decide +kernel
theorem dX10_scope_29 : decode cX10_scope 29 = .ok (.sipush (-1001), 3) := by decide +kernel
theorem dX10_scope_32 : decode cX10_scope 32 = .ok (.ireturn, 1) := by decide +kernel
theorem dX10_scope_33 : decode cX10_scope 33 = .ok (.bipush 96, 2) := by decide +kernel
theorem dX10_scope_35 : decode cX10_scope 35 = .ok (.aload_n 0, 1) := by decide +kernel
theorem dX10_scope_36 : decode cX10_scope 36 = .ok (.iload_n 1, 1) := by decide +kernel
theorem dX10_scope_37 : decode cX10_scope 37 = .ok (.iload_n 2, 1) := by decide +kernel
theorem dX10_scope_38 : decode cX10_scope 38 = .ok (.invokevirtual 181, 3) := by decide +kernel
theorem dX10_scope_41 : decode cX10_scope 41 = .ok (.imul, 1) := by decide +kernel
theorem dX10_scope_42 : decode cX10_scope 42 = .ok (.bipush 32, 2) := by decide +kernel
theorem dX10_scope_44 : decode cX10_scope 44 = .ok (.iload_n 3, 1) := by decide +kernel
theorem dX10_scope_45 : decode cX10_scope 45 = .ok (.imul, 1) := by decide +kernel
theorem dX10_scope_46 : decode cX10_scope 46 = .ok (.iadd, 1) := by decide +kernel
theorem dX10_scope_47 : decode cX10_scope 47 = .ok (.istore 5, 2) := by decide +kernel
theorem dX10_scope_49 : decode cX10_scope 49 = .ok (.iconst 0, 1) := by decide +kernel
theorem dX10_scope_50 : decode cX10_scope 50 = .ok (.istore 6, 2) := by decide +kernel
theorem dX10_scope_52 : decode cX10_scope 52 = .ok (.iconst 0, 1) := by decide +kernel
theorem dX10_scope_53 : decode cX10_scope 53 = .ok (.istore 7, 2) := by decide +kernel
theorem dX10_scope_55 : decode cX10_scope 55 = .ok (.iload 7, 2) := by decide +kernel
theorem dX10_scope_57 : decode cX10_scope 57 = .ok (.bipush 32, 2) := by decide +kernel
theorem dX10_scope_59 : decode cX10_scope 59 = .ok (.if_icmp .ge 37, 3) := by decide +kernel
theorem dX10_scope_62 : decode cX10_scope 62 = .ok (.iload 6, 2) := by decide +kernel
theorem dX10_scope_64 : decode cX10_scope 64 = .ok (.aload_n 0, 1) := by decide +kernel
theorem dX10_scope_65 : decode cX10_scope 65 = .ok (.getfield 33, 3) := by decide +kernel
theorem dX10_scope_68 : decode cX10_scope 68 = .ok (.iload 5, 2) := by decide +kernel
theorem dX10_scope_70 : decode cX10_scope 70 = .ok (.iload 7, 2) := by decide +kernel
theorem dX10_scope_72 : decode cX10_scope 72 = .ok (.iadd, 1) := by decide +kernel
theorem dX10_scope_73 : decode cX10_scope 73 = .ok (.iaload, 1) := by decide +kernel
theorem dX10_scope_74 : decode cX10_scope 74 = .ok (.bipush 16, 2) := by decide +kernel
theorem dX10_scope_76 : decode cX10_scope 76 = .ok (.idiv, 1) := by decide +kernel
theorem dX10_scope_77 : decode cX10_scope 77 = .ok (.iload 4, 2) := by decide +kernel
theorem dX10_scope_79 : decode cX10_scope 79 = .ok (.if_icmp .ne 7, 3) := by decide +kernel
theorem dX10_scope_82 : decode cX10_scope 82 = .ok (.iconst 1, 1) := by decide +kernel
theorem dX10_scope_83 : decode cX10_scope 83 = .ok (.goto 4, 3) := by decide +kernel
theorem dX10_scope_86 : decode cX10_scope 86 = .ok (.iconst 0, 1) := by decide +kernel
theorem dX10_scope_87 : decode cX10_scope 87 = .ok (.iadd, 1) := by decide +kernel
theorem dX10_scope_88 : decode cX10_scope 88 = .ok (.istore 6, 2) := by decide +kernel
theorem dX10_scope_90 : decode cX10_scope 90 = .ok (.iinc 7 1, 3) := by decide +kernel
theorem dX10_scope_93 : decode cX10_scope 93 = .ok (.goto (-38), 3) := by decide +kernel
theorem dX10_scope_96 : decode cX10_scope 96 = .ok (.iload 6, 2) := by decide +kernel
theorem dX10_scope_98 : decode cX10_scope 98 = .ok (.ireturn, 1) := by decide +kernel
theorem dX10_seen_0 : decode cX10_seen 0 = .ok (.aload_n 0, 1) := by decide +kernel
theorem dX10_seen_1 : decode cX10_seen 1 = .ok (.getfield 7, 3) := by decide +kernel
theorem dX10_seen_4 : decode cX10_seen 4 = .ok (.iload_n 1, 1) := by decide +kernel
theorem dX10_seen_5 : decode cX10_seen 5 = .ok (.iconst 3, 1) := by decide +kernel
theorem dX10_seen_6 : decode cX10_seen 6 = .ok (.iload_n 2, 1) := by decide +kernel
theorem dX10_seen_7 : decode cX10_seen 7 = .ok (.iadd, 1) := by decide +kernel
theorem dX10_seen_8 : decode cX10_seen 8 = .ok (.invokestatic 73, 3) := by decide +kernel
theorem dX10_seen_11 : decode cX10_seen 11 = .ok (.iaload, 1) := by decide +kernel
theorem dX10_seen_12 : decode cX10_seen 12 = .ok (.istore 5, 2) := by decide +kernel
theorem dX10_seen_14 : decode cX10_seen 14 = .ok (.iload 5, 2) := by decide +kernel
theorem dX10_seen_16 : decode cX10_seen 16 = .ok (.ifCond .ge 7, 3) := by decide +kernel
theorem dX10_seen_19 : decode cX10_seen 19 = .ok (.iconst 0, 1) := by decide +kernel
theorem dX10_seen_20 : decode cX10_seen 20 = .ok (.goto 21, 3) := by decide +kernel
theorem dX10_seen_23 : decode cX10_seen 23 = .ok (.aload_n 0, 1) := by decide +kernel
theorem dX10_seen_24 : decode cX10_seen 24 = .ok (.getfield 33, 3) := by decide +kernel
theorem dX10_seen_27 : decode cX10_seen 27 = .ok (.bipush 96, 2) := by decide +kernel
theorem dX10_seen_29 : decode cX10_seen 29 = .ok (.aload_n 0, 1) := by decide +kernel
theorem dX10_seen_30 : decode cX10_seen 30 = .ok (.iload 5, 2) := by decide +kernel
theorem dX10_seen_32 : decode cX10_seen 32 = .ok (.iload_n 3, 1) := by decide +kernel
theorem dX10_seen_33 : decode cX10_seen 33 = .ok (.invokevirtual 140, 3) := by decide +kernel
theorem dX10_seen_36 : decode cX10_seen 36 = .ok (.imul, 1) := by decide +kernel
theorem dX10_seen_37 : decode cX10_seen 37 = .ok (.iload 4, 2) := by decide +kernel
theorem dX10_seen_39 : decode cX10_seen 39 = .ok (.iadd, 1) := by decide +kernel
theorem dX10_seen_40 : decode cX10_seen 40 = .ok (.iaload, 1) := by decide +kernel
theorem dX10_seen_41 : decode cX10_seen 41 = .ok (.ireturn, 1) := by decide +kernel
theorem dX10_set_0 : decode cX10_set 0 = .ok (.aload_n 0, 1) := by decide +kernel
theorem dX10_set_1 : decode cX10_set 1 = .ok (.iload_n 1, 1) := by decide +kernel
theorem dX10_set_2 : decode cX10_set 2 = .ok (.iload_n 2, 1) := by decide +kernel
theorem dX10_set_3 : decode cX10_set 3 = .ok (.invokevirtual 109, 3) := by decide +kernel
theorem dX10_set_6 : decode cX10_set 6 = .ok (.ifCond .ne 7, 3) := by decide +kernel
theorem dX10_set_9 : decode cX10_set 9 = .ok (.sipush (-1001), 3) := by decide +kernel
theorem dX10_set_12 : decode cX10_set 12 = .ok (.ireturn, 1) := by decide +kernel
theorem dX10_set_13 : decode cX10_set 13 = .ok (.iload_n 3, 1) := by decide +kernel
theorem dX10_set_14 : decode cX10_set 14 = .ok (.aload_n 0, 1) := by decide +kernel
theorem dX10_set_15 : decode cX10_set 15 = .ok (.iload_n 1, 1) := by decide +kernel
theorem dX10_set_16 : decode cX10_set 16 = .ok (.invokevirtual 81, 3) := by decide +kernel
theorem dX10_set_19 : decode cX10_set 19 = .ok (.invokestatic 112, 3) := by decide +kernel
theorem dX10_set_22 : decode cX10_set 22 = .ok (.aload_n 0, 1) := by decide +kernel
theorem dX10_set_23 : decode cX10_set 23 = .ok (.iload_n 1, 1) := by decide +kernel
theorem dX10_set_24 : decode cX10_set 24 = .ok (.invokevirtual 81, 3) := by decide +kernel
theorem dX10_set_27 : decode cX10_set 27 = .ok (.iload_n 2, 1) := by decide +kernel
theorem dX10_set_28 : decode cX10_set 28 = .ok (.invokestatic 115, 3) := by decide +kernel
theorem dX10_set_31 : decode cX10_set 31 = .ok (.invokestatic 69, 3) := by decide +kernel
theorem dX10_set_34 : decode cX10_set 34 = .ok (.ifCond .ne 7, 3) := by decide +kernel
theorem dX10_set_37 : decode cX10_set 37 = .ok (.sipush (-1002), 3) := by decide +kernel
theorem dX10_set_40 : decode cX10_set 40 = .ok (.ireturn, 1) := by decide +kernel
theorem dX10_set_41 : decode cX10_set 41 = .ok (.aload_n 0, 1) := by decide +kernel
theorem dX10_set_42 : decode cX10_set 42 = .ok (.getfield 7, 3) := by decide +kernel
theorem dX10_set_45 : decode cX10_set 45 = .ok (.iload_n 1, 1) := by decide +kernel
theorem dX10_set_46 : decode cX10_set 46 = .ok (.bipush 6, 2) := by decide +kernel
theorem dX10_set_48 : decode cX10_set 48 = .ok (.iload_n 2, 1) := by decide +kernel
theorem dX10_set_49 : decode cX10_set 49 = .ok (.iadd, 1) := by decide +kernel
theorem dX10_set_50 : decode cX10_set 50 = .ok (.invokestatic 73, 3) := by decide +kernel
theorem dX10_set_53 : decode cX10_set 53 = .ok (.iload_n 3, 1) := by decide +kernel
theorem dX10_set_54 : decode cX10_set 54 = .ok (.iastore, 1) := by decide +kernel
theorem dX10_set_55 : decode cX10_set 55 = .ok (.aload_n 0, 1) := by decide +kernel
theorem dX10_set_56 : decode cX10_set 56 = .ok (.iload_n 1, 1) := by decide +kernel
theorem dX10_set_57 : decode cX10_set 57 = .ok (.aload_n 0, 1) := by decide +kernel
theorem dX10_set_58 : decode cX10_set 58 = .ok (.getfield 7, 3) := by decide +kernel
theorem dX10_set_61 : decode cX10_set 61 = .ok (.iload_n 1, 1) := by decide +kernel
theorem dX10_set_62 : decode cX10_set 62 = .ok (.iconst 1, 1) := by decide +kernel
theorem dX10_set_63 : decode cX10_set 63 = .ok (.invokestatic 73, 3) := by decide +kernel
theorem dX10_set_66 : decode cX10_set 66 = .ok (.iaload, 1) := by decide +kernel
theorem dX10_set_67 : decode cX10_set 67 = .ok (.aload_n 0, 1) := by decide +kernel
theorem dX10_set_68 : decode cX10_set 68 = .ok (.getfield 7, 3) := by decide +kernel
theorem dX10_set_71 : decode cX10_set 71 = .ok (.iload_n 1, 1) := by decide +kernel
theorem dX10_set_72 : decode cX10_set 72 = .ok (.iconst 2, 1) := by decide +kernel
theorem dX10_set_73 : decode cX10_set 73 = .ok (.invokestatic 73, 3) := by decide +kernel
theorem dX10_set_76 : decode cX10_set 76 = .ok (.iaload, 1) := by decide +kernel
theorem dX10_set_77 : decode cX10_set 77 = .ok (.iconst 1, 1) := by decide +kernel
theorem dX10_set_78 : decode cX10_set 78 = .ok (.iconst 0, 1) := by decide +kernel
theorem dX10_set_79 : decode cX10_set 79 = .ok (.invokevirtual 105, 3) := by decide +kernel
theorem dX10_set_82 : decode cX10_set 82 = .ok (.ireturn, 1) := by decide +kernel
theorem dX10_setRange_0 : decode cX10_setRange 0 = .ok (.aload_n 0, 1) := by decide +kernel
theorem dX10_setRange_1 : decode cX10_setRange 1 = .ok (.iload_n 1, 1) := by decide +kernel
theorem dX10_setRange_2 : decode cX10_setRange 2 = .ok (.invokevirtual 77, 3) := by decide +kernel
theorem dX10_setRange_5 : decode cX10_setRange 5 = .ok (.ifCond .ne 7, 3) := by decide +kernel
theorem dX10_setRange_8 : decode cX10_setRange 8 = .ok (.sipush (-1001), 3) := by decide +kernel
theorem dX10_setRange_11 : decode cX10_setRange 11 = .ok (.ireturn, 1) := by decide +kernel
theorem dX10_setRange_12 : decode cX10_setRange 12 = .ok (.iload_n 2, 1) := by decide +kernel
theorem dX10_setRange_13 : decode cX10_setRange 13 = .ok (.iconst 0, 1) := by decide +kernel
theorem dX10_setRange_14 : decode cX10_setRange 14 = .ok (.bipush 99, 2) := by decide +kernel
theorem dX10_setRange_16 : decode cX10_setRange 16 = .ok (.invokestatic 69, 3) := by decide +kernel
theorem dX10_setRange_19 : decode cX10_setRange 19 = .ok (.ifCond .eq 13, 3) := by decide +kernel
theorem dX10_setRange_22 : decode cX10_setRange 22 = .ok (.iload_n 3, 1) := by decide +kernel
theorem dX10_setRange_23 : decode cX10_setRange 23 = .ok (.iload_n 2, 1) := by decide +kernel
theorem dX10_setRange_24 : decode cX10_setRange 24 = .ok (.bipush 99, 2) := by decide +kernel
theorem dX10_setRange_26 : decode cX10_setRange 26 = .ok (.invokestatic 69, 3) := by decide +kernel
theorem dX10_setRange_29 : decode cX10_setRange 29 = .ok (.ifCond .ne 7, 3) := by decide +kernel
theorem dX10_setRange_32 : decode cX10_setRange 32 = .ok (.sipush (-1002), 3) := by decide +kernel
theorem dX10_setRange_35 : decode cX10_setRange 35 = .ok (.ireturn, 1) := by decide +kernel
theorem dX10_setRange_36 : decode cX10_setRange 36 = .ok (.aload_n 0, 1) := by decide +kernel
theorem dX10_setRange_37 : decode cX10_setRange 37 = .ok (.getfield 7, 3) := by decide +kernel
theorem dX10_setRange_40 : decode cX10_setRange 40 = .ok (.iload_n 1, 1) := by decide +kernel
theorem dX10_setRange_41 : decode cX10_setRange 41 = .ok (.iconst 1, 1) := by decide +kernel
theorem dX10_setRange_42 : decode cX10_setRange 42 = .ok (.invokestatic 73, 3) := by decide +kernel
theorem dX10_setRange_45 : decode cX10_setRange 45 = .ok (.iaload, 1) := by decide +kernel
theorem dX10_setRange_46 : decode cX10_setRange 46 = .ok (.istore 4, 2) := by decide +kernel
theorem dX10_setRange_48 : decode cX10_setRange 48 = .ok (.aload_n 0, 1) := by decide +kernel
theorem dX10_setRange_49 : decode cX10_setRange 49 = .ok (.getfield 7, 3) := by decide +kernel
theorem dX10_setRange_52 : decode cX10_setRange 52 = .ok (.iload_n 1, 1) := by decide +kernel
theorem dX10_setRange_53 : decode cX10_setRange 53 = .ok (.iconst 2, 1) := by decide +kernel
theorem dX10_setRange_54 : decode cX10_setRange 54 = .ok (.invokestatic 73, 3) := by decide +kernel
theorem dX10_setRange_57 : decode cX10_setRange 57 = .ok (.iaload, 1) := by decide +kernel
theorem dX10_setRange_58 : decode cX10_setRange 58 = .ok (.istore 5, 2) := by decide +kernel
theorem dX10_setRange_60 : decode cX10_setRange 60 = .ok (.aload_n 0, 1) := by decide +kernel
theorem dX10_setRange_61 : decode cX10_setRange 61 = .ok (.getfield 7, 3) := by decide +kernel
theorem dX10_setRange_64 : decode cX10_setRange 64 = .ok (.iload_n 1, 1) := by decide +kernel
theorem dX10_setRange_65 : decode cX10_setRange 65 = .ok (.iconst 1, 1) := by decide +kernel
theorem dX10_setRange_66 : decode cX10_setRange 66 = .ok (.invokestatic 73, 3) := by decide +kernel
theorem dX10_setRange_69 : decode cX10_setRange 69 = .ok (.iload_n 2, 1) := by decide +kernel
theorem dX10_setRange_70 : decode cX10_setRange 70 = .ok (.iastore, 1) := by decide +kernel
theorem dX10_setRange_71 : decode cX10_setRange 71 = .ok (.aload_n 0, 1) := by decide +kernel
theorem dX10_setRange_72 : decode cX10_setRange 72 = .ok (.getfield 7, 3) := by decide +kernel
theorem dX10_setRange_75 : decode cX10_setRange 75 = .ok (.iload_n 1, 1) := by decide +kernel
theorem dX10_setRange_76 : decode cX10_setRange 76 = .ok (.iconst 2, 1) := by decide +kernel
theorem dX10_setRange_77 : decode cX10_setRange 77 = .ok (.invokestatic 73, 3) := by decide +kernel
theorem dX10_setRange_80 : decode cX10_setRange 80 = .ok (.iload_n 3, 1) := by decide +kernel
theorem dX10_setRange_81 : decode cX10_setRange 81 = .ok (.iastore, 1) := by decide +kernel
theorem dX10_setRange_82 : decode cX10_setRange 82 = .ok (.aload_n 0, 1) := by decide +kernel
theorem dX10_setRange_83 : decode cX10_setRange 83 = .ok (.iload_n 1, 1) := by decide +kernel
theorem dX10_setRange_84 : decode cX10_setRange 84 = .ok (.iload 4, 2) := by decide +kernel
theorem dX10_setRange_86 : decode cX10_setRange 86 = .ok (.iload 5, 2) := by decide +kernel
theorem dX10_setRange_88 : decode cX10_setRange 88 = .ok (.iload_n 2, 1) := by decide +kernel
theorem dX10_setRange_89 : decode cX10_setRange 89 = .ok (.iload_n 3, 1) := by decide +kernel
theorem dX10_setRange_90 : decode cX10_setRange 90 = .ok (.invokevirtual 105, 3) := by decide +kernel
theorem dX10_setRange_93 : decode cX10_setRange 93 = .ok (.aload_n 0, 1) := by decide +kernel
theorem dX10_setRange_94 : decode cX10_setRange 94 = .ok (.iload_n 1, 1) := by decide +kernel
theorem dX10_setRange_95 : decode cX10_setRange 95 = .ok (.iload_n 2, 1) := by decide +kernel
theorem dX10_setRange_96 : decode cX10_setRange 96 = .ok (.iload_n 3, 1) := by decide +kernel
theorem dX10_setRange_97 : decode cX10_setRange 97 = .ok (.iload 4, 2) := by decide +kernel
theorem dX10_setRange_99 : decode cX10_setRange 99 = .ok (.iload 5, 2) := by decide +kernel
theorem dX10_setRange_101 : decode cX10_setRange 101 = .ok (.invokevirtual 105, 3) := by decide +kernel
theorem dX10_setRange_104 : decode cX10_setRange 104 = .ok (.iadd, 1) := by decide +kernel
theorem dX10_setRange_105 : decode cX10_setRange 105 = .ok (.ireturn, 1) := by decide +kernel
theorem dX10_setRoom_0 : decode cX10_setRoom 0 = .ok (.iload_n 1, 1) := by decide +kernel
theorem dX10_setRoom_1 : decode cX10_setRoom 1 = .ok (.bipush 12, 2) := by decide +kernel
theorem dX10_setRoom_3 : decode cX10_setRoom 3 = .ok (.bipush 48, 2) := by decide +kernel
theorem dX10_setRoom_5 : decode cX10_setRoom 5 = .ok (.invokestatic 69, 3) := by decide +kernel
theorem dX10_setRoom_8 : decode cX10_setRoom 8 = .ok (.ifCond .ne 7, 3) := by decide +kernel
theorem dX10_setRoom_11 : decode cX10_setRoom 11 = .ok (.sipush (-1002), 3) := by decide +kernel
theorem dX10_setRoom_14 : decode cX10_setRoom 14 = .ok (.ireturn, 1) := by decide +kernel
theorem dX10_setRoom_15 : decode cX10_setRoom 15 = .ok (.aload_n 0, 1) := by decide +kernel
theorem dX10_setRoom_16 : decode cX10_setRoom 16 = .ok (.getfield 20, 3) := by decide +kernel
theorem dX10_setRoom_19 : decode cX10_setRoom 19 = .ok (.istore_n 2, 1) := by decide +kernel
theorem dX10_setRoom_20 : decode cX10_setRoom 20 = .ok (.aload_n 0, 1) := by decide +kernel
theorem dX10_setRoom_21 : decode cX10_setRoom 21 = .ok (.iload_n 1, 1) := by decide +kernel
theorem dX10_setRoom_22 : decode cX10_setRoom 22 = .ok (.putfield 20, 3) := by decide +kernel
theorem dX10_setRoom_25 : decode cX10_setRoom 25 = .ok (.aload_n 0, 1) := by decide +kernel
theorem dX10_setRoom_26 : decode cX10_setRoom 26 = .ok (.iload_n 1, 1) := by decide +kernel
theorem dX10_setRoom_27 : decode cX10_setRoom 27 = .ok (.invokevirtual 158, 3) := by decide +kernel
theorem dX10_setRoom_30 : decode cX10_setRoom 30 = .ok (.iload_n 2, 1) := by decide +kernel
theorem dX10_setRoom_31 : decode cX10_setRoom 31 = .ok (.ireturn, 1) := by decide +kernel
theorem dX10_size_0 : decode cX10_size 0 = .ok (.iconst 0, 1) := by decide +kernel
theorem dX10_size_1 : decode cX10_size 1 = .ok (.istore_n 1, 1) := by decide +kernel
theorem dX10_size_2 : decode cX10_size 2 = .ok (.iload_n 0, 1) := by decide +kernel
theorem dX10_size_3 : decode cX10_size 3 = .ok (.istore_n 2, 1) := by decide +kernel
theorem dX10_size_4 : decode cX10_size 4 = .ok (.iload_n 2, 1) := by decide +kernel
theorem dX10_size_5 : decode cX10_size 5 = .ok (.ifCond .eq 15, 3) := by decide +kernel
theorem dX10_size_8 : decode cX10_size 8 = .ok (.iinc 1 1, 3) := by decide +kernel
theorem dX10_size_11 : decode cX10_size 11 = .ok (.iload_n 2, 1) := by decide +kernel
theorem dX10_size_12 : decode cX10_size 12 = .ok (.iload_n 2, 1) := by decide +kernel
theorem dX10_size_13 : decode cX10_size 13 = .ok (.iconst 1, 1) := by decide +kernel
theorem dX10_size_14 : decode cX10_size 14 = .ok (.isub, 1) := by decide +kernel
theorem dX10_size_15 : decode cX10_size 15 = .ok (.iand, 1) := by decide +kernel
theorem dX10_size_16 : decode cX10_size 16 = .ok (.istore_n 2, 1) := by decide +kernel
theorem dX10_size_17 : decode cX10_size 17 = .ok (.goto (-13), 3) := by decide +kernel
theorem dX10_size_20 : decode cX10_size 20 = .ok (.iload_n 1, 1) := by decide +kernel
theorem dX10_size_21 : decode cX10_size 21 = .ok (.ireturn, 1) := by decide +kernel
theorem dX10_sum_0 : decode cX10_sum 0 = .ok (.aload_n 0, 1) := by decide +kernel
theorem dX10_sum_1 : decode cX10_sum 1 = .ok (.iload_n 1, 1) := by decide +kernel
theorem dX10_sum_2 : decode cX10_sum 2 = .ok (.iload_n 2, 1) := by decide +kernel
theorem dX10_sum_3 : decode cX10_sum 3 = .ok (.invokevirtual 178, 3) := by decide +kernel
theorem dX10_sum_6 : decode cX10_sum 6 = .ok (.ifCond .eq 12, 3) := by decide +kernel
theorem dX10_sum_9 : decode cX10_sum 9 = .ok (.iload_n 3, 1) := by decide +kernel
theorem dX10_sum_10 : decode cX10_sum 10 = .ok (.iconst 0, 1) := by decide +kernel
theorem dX10_sum_11 : decode cX10_sum 11 = .ok (.iconst 2, 1) := by decide +kernel
theorem dX10_sum_12 : decode cX10_sum 12 = .ok (.invokestatic 69, 3) := by decide +kernel
theorem dX10_sum_15 : decode cX10_sum 15 = .ok (.ifCond .ne 7, 3) := by decide +kernel
theorem dX10_sum_18 : decode cX10_sum 18 = .ok (.sipush (-1001), 3) := by decide +kernel
theorem dX10_sum_21 : decode cX10_sum 21 = .ok (.ireturn, 1) := by decide +kernel
theorem dX10_sum_22 : decode cX10_sum 22 = .ok (.iload 4, 2) := by decide +kernel
theorem dX10_sum_24 : decode cX10_sum 24 = .ok (.iconst 0, 1) := by decide +kernel
theorem dX10_sum_25 : decode cX10_sum 25 = .ok (.iconst 3, 1) := by decide +kernel
theorem dX10_sum_26 : decode cX10_sum 26 = .ok (.invokestatic 69, 3) := by decide +kernel
theorem dX10_sum_29 : decode cX10_sum 29 = .ok (.ifCond .eq 26, 3) := by decide +kernel
theorem dX10_sum_32 : decode cX10_sum 32 = .ok (.aload_n 0, 1) := by decide +kernel
theorem dX10_sum_33 : decode cX10_sum 33 = .ok (.bipush 96, 2) := by decide +kernel
theorem dX10_sum_35 : decode cX10_sum 35 = .ok (.aload_n 0, 1) := by decide +kernel
theorem dX10_sum_36 : decode cX10_sum 36 = .ok (.iload_n 1, 1) := by decide +kernel
theorem dX10_sum_37 : decode cX10_sum 37 = .ok (.iload_n 2, 1) := by decide +kernel
theorem dX10_sum_38 : decode cX10_sum 38 = .ok (.invokevirtual 181, 3) := by decide +kernel
theorem dX10_sum_41 : decode cX10_sum 41 = .ok (.imul, 1) := by decide +kernel
theorem dX10_sum_42 : decode cX10_sum 42 = .ok (.bipush 32, 2) := by decide +kernel
theorem dX10_sum_44 : decode cX10_sum 44 = .ok (.iload_n 3, 1) := by decide +kernel
theorem dX10_sum_45 : decode cX10_sum 45 = .ok (.imul, 1) := by decide +kernel
theorem dX10_sum_46 : decode cX10_sum 46 = .ok (.iadd, 1) := by decide +kernel
theorem dX10_sum_47 : decode cX10_sum 47 = .ok (.iload 4, 2) := by decide +kernel
theorem dX10_sum_49 : decode cX10_sum 49 = .ok (.invokevirtual 184, 3) := by decide +kernel
theorem dX10_sum_52 : decode cX10_sum 52 = .ok (.goto 6, 3) := by decide +kernel
theorem dX10_sum_55 : decode cX10_sum 55 = .ok (.sipush (-1002), 3) := by decide +kernel
theorem dX10_sum_58 : decode cX10_sum 58 = .ok (.ireturn, 1) := by decide +kernel
theorem dX10_sums_0 : decode cX10_sums 0 = .ok (.sipush 255, 3) := by decide +kernel
theorem dX10_sums_3 : decode cX10_sums 3 = .ok (.istore_n 3, 1) := by decide +kernel
theorem dX10_sums_4 : decode cX10_sums 4 = .ok (.iconst 0, 1) := by decide +kernel
theorem dX10_sums_5 : decode cX10_sums 5 = .ok (.istore 4, 2) := by decide +kernel
theorem dX10_sums_7 : decode cX10_sums 7 = .ok (.iconst 0, 1) := by decide +kernel
theorem dX10_sums_8 : decode cX10_sums 8 = .ok (.istore 5, 2) := by decide +kernel
theorem dX10_sums_10 : decode cX10_sums 10 = .ok (.iconst 0, 1) := by decide +kernel
theorem dX10_sums_11 : decode cX10_sums 11 = .ok (.istore 6, 2) := by decide +kernel
theorem dX10_sums_13 : decode cX10_sums 13 = .ok (.iconst 0, 1) := by decide +kernel
theorem dX10_sums_14 : decode cX10_sums 14 = .ok (.istore 7, 2) := by decide +kernel
theorem dX10_sums_16 : decode cX10_sums 16 = .ok (.iload 7, 2) := by decide +kernel
theorem dX10_sums_18 : decode cX10_sums 18 = .ok (.bipush 32, 2) := by decide +kernel
theorem dX10_sums_20 : decode cX10_sums 20 = .ok (.if_icmp .ge 116, 3) := by decide +kernel
theorem dX10_sums_23 : decode cX10_sums 23 = .ok (.aload_n 0, 1) := by decide +kernel
theorem dX10_sums_24 : decode cX10_sums 24 = .ok (.getfield 33, 3) := by decide +kernel
theorem dX10_sums_27 : decode cX10_sums 27 = .ok (.iload_n 1, 1) := by decide +kernel
theorem dX10_sums_28 : decode cX10_sums 28 = .ok (.iload 7, 2) := by decide +kernel
theorem dX10_sums_30 : decode cX10_sums 30 = .ok (.iadd, 1) := by decide +kernel
theorem dX10_sums_31 : decode cX10_sums 31 = .ok (.iaload, 1) := by decide +kernel
theorem dX10_sums_32 : decode cX10_sums 32 = .ok (.istore 8, 2) := by decide +kernel
theorem dX10_sums_34 : decode cX10_sums 34 = .ok (.iload 8, 2) := by decide +kernel
theorem dX10_sums_36 : decode cX10_sums 36 = .ok (.iload_n 3, 1) := by decide +kernel
theorem dX10_sums_37 : decode cX10_sums 37 = .ok (.if_icmp .ge 8, 3) := by decide +kernel
theorem dX10_sums_40 : decode cX10_sums 40 = .ok (.iload 8, 2) := by decide +kernel
theorem dX10_sums_42 : decode cX10_sums 42 = .ok (.goto 4, 3) := by decide +kernel
theorem dX10_sums_45 : decode cX10_sums 45 = .ok (.iload_n 3, 1) := by decide +kernel
theorem dX10_sums_46 : decode cX10_sums 46 = .ok (.istore_n 3, 1) := by decide +kernel
theorem dX10_sums_47 : decode cX10_sums 47 = .ok (.iload 8, 2) := by decide +kernel
theorem dX10_sums_49 : decode cX10_sums 49 = .ok (.iload 4, 2) := by decide +kernel
theorem dX10_sums_51 : decode cX10_sums 51 = .ok (.if_icmp .le 8, 3) := by decide +kernel
theorem dX10_sums_54 : decode cX10_sums 54 = .ok (.iload 8, 2) := by decide +kernel
theorem dX10_sums_56 : decode cX10_sums 56 = .ok (.goto 5, 3) := by decide +kernel
theorem dX10_sums_59 : decode cX10_sums 59 = .ok (.iload 4, 2) := by decide +kernel
theorem dX10_sums_61 : decode cX10_sums 61 = .ok (.istore 4, 2) := by decide +kernel
theorem dX10_sums_63 : decode cX10_sums 63 = .ok (.iload 5, 2) := by decide +kernel
theorem dX10_sums_65 : decode cX10_sums 65 = .ok (.iload 8, 2) := by decide +kernel
theorem dX10_sums_67 : decode cX10_sums 67 = .ok (.iadd, 1) := by decide +kernel
theorem dX10_sums_68 : decode cX10_sums 68 = .ok (.istore 5, 2) := by decide +kernel
theorem dX10_sums_70 : decode cX10_sums 70 = .ok (.iconst 1, 1) := by decide +kernel
theorem dX10_sums_71 : decode cX10_sums 71 = .ok (.istore 9, 2) := by decide +kernel
theorem dX10_sums_73 : decode cX10_sums 73 = .ok (.iconst 0, 1) := by decide +kernel
theorem dX10_sums_74 : decode cX10_sums 74 = .ok (.istore 10, 2) := by decide +kernel
theorem dX10_sums_76 : decode cX10_sums 76 = .ok (.iload 10, 2) := by decide +kernel
theorem dX10_sums_78 : decode cX10_sums 78 = .ok (.iload 7, 2) := by decide +kernel
theorem dX10_sums_80 : decode cX10_sums 80 = .ok (.if_icmp .ge 35, 3) := by decide +kernel
theorem dX10_sums_83 : decode cX10_sums 83 = .ok (.iload 9, 2) := by decide +kernel
theorem dX10_sums_85 : decode cX10_sums 85 = .ok (.ifCond .eq 21, 3) := by decide +kernel
theorem dX10_sums_88 : decode cX10_sums 88 = .ok (.aload_n 0, 1) := by decide +kernel
theorem dX10_sums_89 : decode cX10_sums 89 = .ok (.getfield 33, 3) := by decide +kernel
theorem dX10_sums_92 : decode cX10_sums 92 = .ok (.iload_n 1, 1) := by decide +kernel
theorem dX10_sums_93 : decode cX10_sums 93 = .ok (.iload 10, 2) := by decide +kernel
theorem dX10_sums_95 : decode cX10_sums 95 = .ok (.iadd, 1) := by decide +kernel
theorem dX10_sums_96 : decode cX10_sums 96 = .ok (.iaload, 1) := by decide +kernel
theorem dX10_sums_97 : decode cX10_sums 97 = .ok (.iload 8, 2) := by decide +kernel
theorem dX10_sums_99 : decode cX10_sums 99 = .ok (.if_icmp .eq 7, 3) := by decide +kernel
theorem dX10_sums_102 : decode cX10_sums 102 = .ok (.iconst 1, 1) := by decide +kernel
theorem dX10_sums_103 : decode cX10_sums 103 = .ok (.goto 4, 3) := by decide +kernel
theorem dX10_sums_106 : decode cX10_sums 106 = .ok (.iconst 0, 1) := by decide +kernel
theorem dX10_sums_107 : decode cX10_sums 107 = .ok (.istore 9, 2) := by decide +kernel
theorem dX10_sums_109 : decode cX10_sums 109 = .ok (.iinc 10 1, 3) := by decide +kernel
theorem dX10_sums_112 : decode cX10_sums 112 = .ok (.goto (-36), 3) := by decide +kernel
theorem dX10_sums_115 : decode cX10_sums 115 = .ok (.iload 6, 2) := by decide +kernel
theorem dX10_sums_117 : decode cX10_sums 117 = .ok (.iload 9, 2) := by decide +kernel
theorem dX10_sums_119 : decode cX10_sums 119 = .ok (.ifCond .eq 7, 3) := by decide +kernel
theorem dX10_sums_122 : decode cX10_sums 122 = .ok (.iconst 1, 1) := by decide +kernel
theorem dX10_sums_123 : decode cX10_sums 123 = .ok (.goto 4, 3) := by decide +kernel
theorem dX10_sums_126 : decode cX10_sums 126 = .ok (.iconst 0, 1) := by decide +kernel
theorem dX10_sums_127 : decode cX10_sums 127 = .ok (.iadd, 1) := by decide +kernel
theorem dX10_sums_128 : decode cX10_sums 128 = .ok (.istore 6, 2) := by decide +kernel
theorem dX10_sums_130 : decode cX10_sums 130 = .ok (.iinc 7 1, 3) := by decide +kernel
theorem dX10_sums_133 : decode cX10_sums 133 = .ok (.goto (-117), 3) := by decide +kernel
theorem dX10_sums_136 : decode cX10_sums 136 = .ok (.iload_n 2, 1) := by decide +kernel
theorem dX10_sums_137 : decode cX10_sums 137 = .ok (.ifCond .ne 7, 3) := by decide +kernel
theorem dX10_sums_140 : decode cX10_sums 140 = .ok (.iload_n 3, 1) := by decide +kernel
theorem dX10_sums_141 : decode cX10_sums 141 = .ok (.goto 25, 3) := by decide +kernel
theorem dX10_sums_144 : decode cX10_sums 144 = .ok (.iload_n 2, 1) := by decide +kernel
theorem dX10_sums_145 : decode cX10_sums 145 = .ok (.iconst 1, 1) := by decide +kernel
theorem dX10_sums_146 : decode cX10_sums 146 = .ok (.if_icmp .ne 8, 3) := by decide +kernel
theorem dX10_sums_149 : decode cX10_sums 149 = .ok (.iload 4, 2) := by decide +kernel
theorem dX10_sums_151 : decode cX10_sums 151 = .ok (.goto 15, 3) := by decide +kernel
theorem dX10_sums_154 : decode cX10_sums 154 = .ok (.iload_n 2, 1) := by decide +kernel
theorem dX10_sums_155 : decode cX10_sums 155 = .ok (.iconst 2, 1) := by decide +kernel
theorem dX10_sums_156 : decode cX10_sums 156 = .ok (.if_icmp .ne 8, 3) := by decide +kernel
theorem dX10_sums_159 : decode cX10_sums 159 = .ok (.iload 5, 2) := by decide +kernel
theorem dX10_sums_161 : decode cX10_sums 161 = .ok (.goto 5, 3) := by decide +kernel
theorem dX10_sums_164 : decode cX10_sums 164 = .ok (.iload 6, 2) := by decide +kernel
theorem dX10_sums_166 : decode cX10_sums 166 = .ok (.ireturn, 1) := by decide +kernel
theorem dX10_takes_0 : decode cX10_takes 0 = .ok (.aload_n 0, 1) := by decide +kernel
theorem dX10_takes_1 : decode cX10_takes 1 = .ok (.invokevirtual 196, 3) := by decide +kernel
theorem dX10_takes_4 : decode cX10_takes 4 = .ok (.iload_n 1, 1) := by decide +kernel
theorem dX10_takes_5 : decode cX10_takes 5 = .ok (.if_icmp .ne 7, 3) := by decide +kernel
theorem dX10_takes_8 : decode cX10_takes 8 = .ok (.iconst 1, 1) := by decide +kernel
theorem dX10_takes_9 : decode cX10_takes 9 = .ok (.goto 4, 3) := by decide +kernel
theorem dX10_takes_12 : decode cX10_takes 12 = .ok (.iconst 0, 1) := by decide +kernel
theorem dX10_takes_13 : decode cX10_takes 13 = .ok (.istore_n 2, 1) := by decide +kernel
theorem dX10_takes_14 : decode cX10_takes 14 = .ok (.aload_n 0, 1) := by decide +kernel
theorem dX10_takes_15 : decode cX10_takes 15 = .ok (.dup, 1) := by decide +kernel
theorem dX10_takes_16 : decode cX10_takes 16 = .ok (.getfield 193, 3) := by decide +kernel
theorem dX10_takes_19 : decode cX10_takes 19 = .ok (.iload_n 2, 1) := by decide +kernel
theorem dX10_takes_20 : decode cX10_takes 20 = .ok (.ifCond .eq 7, 3) := by decide +kernel
theorem dX10_takes_23 : decode cX10_takes 23 = .ok (.iconst 1, 1) := by decide +kernel
theorem dX10_takes_24 : decode cX10_takes 24 = .ok (.goto 4, 3) := by decide +kernel
theorem dX10_takes_27 : decode cX10_takes 27 = .ok (.iconst 0, 1) := by decide +kernel
theorem dX10_takes_28 : decode cX10_takes 28 = .ok (.iadd, 1) := by decide +kernel
theorem dX10_takes_29 : decode cX10_takes 29 = .ok (.putfield 193, 3) := by decide +kernel
theorem dX10_takes_32 : decode cX10_takes 32 = .ok (.iload_n 2, 1) := by decide +kernel
theorem dX10_takes_33 : decode cX10_takes 33 = .ok (.ireturn, 1) := by decide +kernel
theorem dX10_tells_0 : decode cX10_tells 0 = .ok (.bipush 8, 2) := by decide +kernel
theorem dX10_tells_2 : decode cX10_tells 2 = .ok (.aload_n 0, 1) := by decide +kernel
theorem dX10_tells_3 : decode cX10_tells 3 = .ok (.getfield 206, 3) := by decide +kernel
theorem dX10_tells_6 : decode cX10_tells 6 = .ok (.imul, 1) := by decide +kernel
theorem dX10_tells_7 : decode cX10_tells 7 = .ok (.istore_n 2, 1) := by decide +kernel
theorem dX10_tells_8 : decode cX10_tells 8 = .ok (.aload_n 0, 1) := by decide +kernel
theorem dX10_tells_9 : decode cX10_tells 9 = .ok (.getfield 63, 3) := by decide +kernel
theorem dX10_tells_12 : decode cX10_tells 12 = .ok (.iload_n 2, 1) := by decide +kernel
theorem dX10_tells_13 : decode cX10_tells 13 = .ok (.iload_n 1, 1) := by decide +kernel
theorem dX10_tells_14 : decode cX10_tells 14 = .ok (.iastore, 1) := by decide +kernel
theorem dX10_tells_15 : decode cX10_tells 15 = .ok (.iconst 0, 1) := by decide +kernel
theorem dX10_tells_16 : decode cX10_tells 16 = .ok (.istore_n 3, 1) := by decide +kernel
theorem dX10_tells_17 : decode cX10_tells 17 = .ok (.iload_n 3, 1) := by decide +kernel
theorem dX10_tells_18 : decode cX10_tells 18 = .ok (.iconst 3, 1) := by decide +kernel
theorem dX10_tells_19 : decode cX10_tells 19 = .ok (.if_icmp .ge 22, 3) := by decide +kernel
theorem dX10_tells_22 : decode cX10_tells 22 = .ok (.aload_n 0, 1) := by decide +kernel
theorem dX10_tells_23 : decode cX10_tells 23 = .ok (.getfield 63, 3) := by decide +kernel
theorem dX10_tells_26 : decode cX10_tells 26 = .ok (.iload_n 2, 1) := by decide +kernel
theorem dX10_tells_27 : decode cX10_tells 27 = .ok (.iconst 1, 1) := by decide +kernel
theorem dX10_tells_28 : decode cX10_tells 28 = .ok (.iadd, 1) := by decide +kernel
theorem dX10_tells_29 : decode cX10_tells 29 = .ok (.iload_n 3, 1) := by decide +kernel
theorem dX10_tells_30 : decode cX10_tells 30 = .ok (.iadd, 1) := by decide +kernel
theorem dX10_tells_31 : decode cX10_tells 31 = .ok (.sipush (-1005), 3) := by decide +kernel
theorem dX10_tells_34 : decode cX10_tells 34 = .ok (.iastore, 1) := by decide +kernel
theorem dX10_tells_35 : decode cX10_tells 35 = .ok (.iinc 3 1, 3) := by decide +kernel
theorem dX10_tells_38 : decode cX10_tells 38 = .ok (.goto (-21), 3) := by decide +kernel
theorem dX10_tells_41 : decode cX10_tells 41 = .ok (.iconst 0, 1) := by decide +kernel
theorem dX10_tells_42 : decode cX10_tells 42 = .ok (.istore_n 3, 1) := by decide +kernel
theorem dX10_tells_43 : decode cX10_tells 43 = .ok (.iload_n 3, 1) := by decide +kernel
theorem dX10_tells_44 : decode cX10_tells 44 = .ok (.iconst 4, 1) := by decide +kernel
theorem dX10_tells_45 : decode cX10_tells 45 = .ok (.if_icmp .ge 24, 3) := by decide +kernel
theorem dX10_tells_48 : decode cX10_tells 48 = .ok (.aload_n 0, 1) := by decide +kernel
theorem dX10_tells_49 : decode cX10_tells 49 = .ok (.getfield 63, 3) := by decide +kernel
theorem dX10_tells_52 : decode cX10_tells 52 = .ok (.iload_n 2, 1) := by decide +kernel
theorem dX10_tells_53 : decode cX10_tells 53 = .ok (.iconst 4, 1) := by decide +kernel
theorem dX10_tells_54 : decode cX10_tells 54 = .ok (.iadd, 1) := by decide +kernel
theorem dX10_tells_55 : decode cX10_tells 55 = .ok (.iload_n 3, 1) := by decide +kernel
theorem dX10_tells_56 : decode cX10_tells 56 = .ok (.iadd, 1) := by decide +kernel
theorem dX10_tells_57 : decode cX10_tells 57 = .ok (.iload_n 1, 1) := by decide +kernel
theorem dX10_tells_58 : decode cX10_tells 58 = .ok (.iload_n 3, 1) := by decide +kernel
theorem dX10_tells_59 : decode cX10_tells 59 = .ok (.invokestatic 88, 3) := by decide +kernel
theorem dX10_tells_62 : decode cX10_tells 62 = .ok (.iastore, 1) := by decide +kernel
theorem dX10_tells_63 : decode cX10_tells 63 = .ok (.iinc 3 1, 3) := by decide +kernel
theorem dX10_tells_66 : decode cX10_tells 66 = .ok (.goto (-23), 3) := by decide +kernel
theorem dX10_tells_69 : decode cX10_tells 69 = .ok (.aload_n 0, 1) := by decide +kernel
theorem dX10_tells_70 : decode cX10_tells 70 = .ok (.getfield 42, 3) := by decide +kernel
theorem dX10_tells_73 : decode cX10_tells 73 = .ok (.iload_n 1, 1) := by decide +kernel
theorem dX10_tells_74 : decode cX10_tells 74 = .ok (.iaload, 1) := by decide +kernel
theorem dX10_tells_75 : decode cX10_tells 75 = .ok (.istore_n 3, 1) := by decide +kernel
theorem dX10_tells_76 : decode cX10_tells 76 = .ok (.iconst 0, 1) := by decide +kernel
theorem dX10_tells_77 : decode cX10_tells 77 = .ok (.istore 4, 2) := by decide +kernel
theorem dX10_tells_79 : decode cX10_tells 79 = .ok (.iload 4, 2) := by decide +kernel
theorem dX10_tells_81 : decode cX10_tells 81 = .ok (.iload_n 3, 1) := by decide +kernel
theorem dX10_tells_82 : decode cX10_tells 82 = .ok (.if_icmp .ge 34, 3) := by decide +kernel
theorem dX10_tells_85 : decode cX10_tells 85 = .ok (.aload_n 0, 1) := by decide +kernel
theorem dX10_tells_86 : decode cX10_tells 86 = .ok (.getfield 63, 3) := by decide +kernel
theorem dX10_tells_89 : decode cX10_tells 89 = .ok (.iload_n 2, 1) := by decide +kernel
theorem dX10_tells_90 : decode cX10_tells 90 = .ok (.iconst 1, 1) := by decide +kernel
theorem dX10_tells_91 : decode cX10_tells 91 = .ok (.iadd, 1) := by decide +kernel
theorem dX10_tells_92 : decode cX10_tells 92 = .ok (.iload 4, 2) := by decide +kernel
theorem dX10_tells_94 : decode cX10_tells 94 = .ok (.iadd, 1) := by decide +kernel
theorem dX10_tells_95 : decode cX10_tells 95 = .ok (.aload_n 0, 1) := by decide +kernel
theorem dX10_tells_96 : decode cX10_tells 96 = .ok (.getfield 66, 3) := by decide +kernel
theorem dX10_tells_99 : decode cX10_tells 99 = .ok (.aload_n 0, 1) := by decide +kernel
theorem dX10_tells_100 : decode cX10_tells 100 = .ok (.getfield 209, 3) := by decide +kernel
theorem dX10_tells_103 : decode cX10_tells 103 = .ok (.iload_n 3, 1) := by decide +kernel
theorem dX10_tells_104 : decode cX10_tells 104 = .ok (.isub, 1) := by decide +kernel
theorem dX10_tells_105 : decode cX10_tells 105 = .ok (.iload 4, 2) := by decide +kernel
theorem dX10_tells_107 : decode cX10_tells 107 = .ok (.iadd, 1) := by decide +kernel
theorem dX10_tells_108 : decode cX10_tells 108 = .ok (.iaload, 1) := by decide +kernel
theorem dX10_tells_109 : decode cX10_tells 109 = .ok (.iastore, 1) := by decide +kernel
theorem dX10_tells_110 : decode cX10_tells 110 = .ok (.iinc 4 1, 3) := by decide +kernel
theorem dX10_tells_113 : decode cX10_tells 113 = .ok (.goto (-34), 3) := by decide +kernel
theorem dX10_tells_116 : decode cX10_tells 116 = .ok (.aload_n 0, 1) := by decide +kernel
theorem dX10_tells_117 : decode cX10_tells 117 = .ok (.dup, 1) := by decide +kernel
theorem dX10_tells_118 : decode cX10_tells 118 = .ok (.getfield 209, 3) := by decide +kernel
theorem dX10_tells_121 : decode cX10_tells 121 = .ok (.iload_n 3, 1) := by decide +kernel
theorem dX10_tells_122 : decode cX10_tells 122 = .ok (.isub, 1) := by decide +kernel
theorem dX10_tells_123 : decode cX10_tells 123 = .ok (.putfield 209, 3) := by decide +kernel
theorem dX10_tells_126 : decode cX10_tells 126 = .ok (.aload_n 0, 1) := by decide +kernel
theorem dX10_tells_127 : decode cX10_tells 127 = .ok (.getfield 66, 3) := by decide +kernel
theorem dX10_tells_130 : decode cX10_tells 130 = .ok (.aload_n 0, 1) := by decide +kernel
theorem dX10_tells_131 : decode cX10_tells 131 = .ok (.getfield 209, 3) := by decide +kernel
theorem dX10_tells_134 : decode cX10_tells 134 = .ok (.bipush 100, 2) := by decide +kernel
theorem dX10_tells_136 : decode cX10_tells 136 = .ok (.aload_n 0, 1) := by decide +kernel
theorem dX10_tells_137 : decode cX10_tells 137 = .ok (.getfield 206, 3) := by decide +kernel
theorem dX10_tells_140 : decode cX10_tells 140 = .ok (.iadd, 1) := by decide +kernel
theorem dX10_tells_141 : decode cX10_tells 141 = .ok (.iastore, 1) := by decide +kernel
theorem dX10_tells_142 : decode cX10_tells 142 = .ok (.aload_n 0, 1) := by decide +kernel
theorem dX10_tells_143 : decode cX10_tells 143 = .ok (.dup, 1) := by decide +kernel
theorem dX10_tells_144 : decode cX10_tells 144 = .ok (.getfield 209, 3) := by decide +kernel
theorem dX10_tells_147 : decode cX10_tells 147 = .ok (.iconst 1, 1) := by decide +kernel
theorem dX10_tells_148 : decode cX10_tells 148 = .ok (.iadd, 1) := by decide +kernel
theorem dX10_tells_149 : decode cX10_tells 149 = .ok (.putfield 209, 3) := by decide +kernel
theorem dX10_tells_152 : decode cX10_tells 152 = .ok (.aload_n 0, 1) := by decide +kernel
theorem dX10_tells_153 : decode cX10_tells 153 = .ok (.dup, 1) := by decide +kernel
theorem dX10_tells_154 : decode cX10_tells 154 = .ok (.getfield 206, 3) := by decide +kernel
theorem dX10_tells_157 : decode cX10_tells 157 = .ok (.iconst 1, 1) := by decide +kernel
theorem dX10_tells_158 : decode cX10_tells 158 = .ok (.iadd, 1) := by decide +kernel
theorem dX10_tells_159 : decode cX10_tells 159 = .ok (.putfield 206, 3) := by decide +kernel
theorem dX10_tells_162 : decode cX10_tells 162 = .ok (.return_, 1) := by decide +kernel
theorem dX10_uses_0 : decode cX10_uses 0 = .ok (.aload_n 0, 1) := by decide +kernel
theorem dX10_uses_1 : decode cX10_uses 1 = .ok (.dup, 1) := by decide +kernel
theorem dX10_uses_2 : decode cX10_uses 2 = .ok (.getfield 133, 3) := by decide +kernel
theorem dX10_uses_5 : decode cX10_uses 5 = .ok (.iconst 1, 1) := by decide +kernel
theorem dX10_uses_6 : decode cX10_uses 6 = .ok (.iadd, 1) := by decide +kernel
theorem dX10_uses_7 : decode cX10_uses 7 = .ok (.putfield 133, 3) := by decide +kernel
theorem dX10_uses_10 : decode cX10_uses 10 = .ok (.aload_n 0, 1) := by decide +kernel
theorem dX10_uses_11 : decode cX10_uses 11 = .ok (.getfield 30, 3) := by decide +kernel
theorem dX10_uses_14 : decode cX10_uses 14 = .ok (.iload_n 1, 1) := by decide +kernel
theorem dX10_uses_15 : decode cX10_uses 15 = .ok (.aload_n 0, 1) := by decide +kernel
theorem dX10_uses_16 : decode cX10_uses 16 = .ok (.getfield 133, 3) := by decide +kernel
theorem dX10_uses_19 : decode cX10_uses 19 = .ok (.iastore, 1) := by decide +kernel
theorem dX10_uses_20 : decode cX10_uses 20 = .ok (.return_, 1) := by decide +kernel
theorem dX10_value_0 : decode cX10_value 0 = .ok (.aload_n 0, 1) := by decide +kernel
theorem dX10_value_1 : decode cX10_value 1 = .ok (.iload_n 1, 1) := by decide +kernel
theorem dX10_value_2 : decode cX10_value 2 = .ok (.iload_n 2, 1) := by decide +kernel
theorem dX10_value_3 : decode cX10_value 3 = .ok (.invokevirtual 178, 3) := by decide +kernel
theorem dX10_value_6 : decode cX10_value 6 = .ok (.ifCond .eq 33, 3) := by decide +kernel
theorem dX10_value_9 : decode cX10_value 9 = .ok (.iload_n 3, 1) := by decide +kernel
theorem dX10_value_10 : decode cX10_value 10 = .ok (.iconst 0, 1) := by decide +kernel
theorem dX10_value_11 : decode cX10_value 11 = .ok (.bipush 7, 2) := by decide +kernel
theorem dX10_value_13 : decode cX10_value 13 = .ok (.invokestatic 69, 3) := by decide +kernel
theorem dX10_value_16 : decode cX10_value 16 = .ok (.ifCond .eq 23, 3) := by decide +kernel
theorem dX10_value_19 : decode cX10_value 19 = .ok (.iload 4, 2) := by decide +kernel
theorem dX10_value_21 : decode cX10_value 21 = .ok (.iconst 0, 1) := by decide +kernel
theorem dX10_value_22 : decode cX10_value 22 = .ok (.iconst 3, 1) := by decide +kernel
theorem dX10_value_23 : decode cX10_value 23 = .ok (.invokestatic 69, 3) := by decide +kernel
theorem dX10_value_26 : decode cX10_value 26 = .ok (.ifCond .eq 13, 3) := by decide +kernel
theorem dX10_value_29 : decode cX10_value 29 = .ok (.iload 5, 2) := by decide +kernel
theorem dX10_value_31 : decode cX10_value 31 = .ok (.iconst 0, 1) := by decide +kernel
theorem dX10_value_32 : decode cX10_value 32 = .ok (.iconst 2, 1) := by decide +kernel
theorem dX10_value_33 : decode cX10_value 33 = .ok (.invokestatic 69, 3) := by decide +kernel
theorem dX10_value_36 : decode cX10_value 36 = .ok (.ifCond .ne 7, 3) := by decide +kernel
theorem dX10_value_39 : decode cX10_value 39 = .ok (.sipush (-1001), 3) := by decide +kernel
theorem dX10_value_42 : decode cX10_value 42 = .ok (.ireturn, 1) := by decide +kernel
theorem dX10_value_43 : decode cX10_value 43 = .ok (.aload_n 0, 1) := by decide +kernel
theorem dX10_value_44 : decode cX10_value 44 = .ok (.getfield 33, 3) := by decide +kernel
theorem dX10_value_47 : decode cX10_value 47 = .ok (.bipush 96, 2) := by decide +kernel
theorem dX10_value_49 : decode cX10_value 49 = .ok (.aload_n 0, 1) := by decide +kernel
theorem dX10_value_50 : decode cX10_value 50 = .ok (.iload_n 1, 1) := by decide +kernel
theorem dX10_value_51 : decode cX10_value 51 = .ok (.iload_n 2, 1) := by decide +kernel
theorem dX10_value_52 : decode cX10_value 52 = .ok (.invokevirtual 181, 3) := by decide +kernel
theorem dX10_value_55 : decode cX10_value 55 = .ok (.imul, 1) := by decide +kernel
theorem dX10_value_56 : decode cX10_value 56 = .ok (.bipush 32, 2) := by decide +kernel
theorem dX10_value_58 : decode cX10_value 58 = .ok (.iload 5, 2) := by decide +kernel
theorem dX10_value_60 : decode cX10_value 60 = .ok (.imul, 1) := by decide +kernel
theorem dX10_value_61 : decode cX10_value 61 = .ok (.iadd, 1) := by decide +kernel
theorem dX10_value_62 : decode cX10_value 62 = .ok (.bipush 8, 2) := by decide +kernel
theorem dX10_value_64 : decode cX10_value 64 = .ok (.iload 4, 2) := by decide +kernel
theorem dX10_value_66 : decode cX10_value 66 = .ok (.imul, 1) := by decide +kernel
theorem dX10_value_67 : decode cX10_value 67 = .ok (.iadd, 1) := by decide +kernel
theorem dX10_value_68 : decode cX10_value 68 = .ok (.iload_n 3, 1) := by decide +kernel
theorem dX10_value_69 : decode cX10_value 69 = .ok (.iadd, 1) := by decide +kernel
theorem dX10_value_70 : decode cX10_value 70 = .ok (.iaload, 1) := by decide +kernel
theorem dX10_value_71 : decode cX10_value 71 = .ok (.ireturn, 1) := by decide +kernel
theorem dX10_voids_0 : decode cX10_voids 0 = .ok (.aload_n 0, 1) := by decide +kernel
theorem dX10_voids_1 : decode cX10_voids 1 = .ok (.iload_n 1, 1) := by decide +kernel
theorem dX10_voids_2 : decode cX10_voids 2 = .ok (.invokevirtual 94, 3) := by decide +kernel
theorem dX10_voids_5 : decode cX10_voids 5 = .ok (.istore 6, 2) := by decide +kernel
theorem dX10_voids_7 : decode cX10_voids 7 = .ok (.iconst 0, 1) := by decide +kernel
theorem dX10_voids_8 : decode cX10_voids 8 = .ok (.istore 7, 2) := by decide +kernel
theorem dX10_voids_10 : decode cX10_voids 10 = .ok (.aload_n 0, 1) := by decide +kernel
theorem dX10_voids_11 : decode cX10_voids 11 = .ok (.getfield 85, 3) := by decide +kernel
theorem dX10_voids_14 : decode cX10_voids 14 = .ok (.iconst 1, 1) := by decide +kernel
theorem dX10_voids_15 : decode cX10_voids 15 = .ok (.isub, 1) := by decide +kernel
theorem dX10_voids_16 : decode cX10_voids 16 = .ok (.istore 8, 2) := by decide +kernel
theorem dX10_voids_18 : decode cX10_voids 18 = .ok (.iload 8, 2) := by decide +kernel
theorem dX10_voids_20 : decode cX10_voids 20 = .ok (.ifCond .lt 65, 3) := by decide +kernel
theorem dX10_voids_23 : decode cX10_voids 23 = .ok (.aload_n 0, 1) := by decide +kernel
theorem dX10_voids_24 : decode cX10_voids 24 = .ok (.getfield 27, 3) := by decide +kernel
theorem dX10_voids_27 : decode cX10_voids 27 = .ok (.iload 8, 2) := by decide +kernel
theorem dX10_voids_29 : decode cX10_voids 29 = .ok (.iaload, 1) := by decide +kernel
theorem dX10_voids_30 : decode cX10_voids 30 = .ok (.istore 9, 2) := by decide +kernel
theorem dX10_voids_32 : decode cX10_voids 32 = .ok (.iload 6, 2) := by decide +kernel
theorem dX10_voids_34 : decode cX10_voids 34 = .ok (.aload_n 0, 1) := by decide +kernel
theorem dX10_voids_35 : decode cX10_voids 35 = .ok (.getfield 24, 3) := by decide +kernel
theorem dX10_voids_38 : decode cX10_voids 38 = .ok (.iload 8, 2) := by decide +kernel
theorem dX10_voids_40 : decode cX10_voids 40 = .ok (.iaload, 1) := by decide +kernel
theorem dX10_voids_41 : decode cX10_voids 41 = .ok (.ishr, 1) := by decide +kernel
theorem dX10_voids_42 : decode cX10_voids 42 = .ok (.iconst 1, 1) := by decide +kernel
theorem dX10_voids_43 : decode cX10_voids 43 = .ok (.iand, 1) := by decide +kernel
theorem dX10_voids_44 : decode cX10_voids 44 = .ok (.iconst 1, 1) := by decide +kernel
theorem dX10_voids_45 : decode cX10_voids 45 = .ok (.if_icmp .ne 34, 3) := by decide +kernel
theorem dX10_voids_48 : decode cX10_voids 48 = .ok (.iload 9, 2) := by decide +kernel
theorem dX10_voids_50 : decode cX10_voids 50 = .ok (.iload_n 2, 1) := by decide +kernel
theorem dX10_voids_51 : decode cX10_voids 51 = .ok (.iload_n 3, 1) := by decide +kernel
theorem dX10_voids_52 : decode cX10_voids 52 = .ok (.invokestatic 69, 3) := by decide +kernel
theorem dX10_voids_55 : decode cX10_voids 55 = .ok (.ifCond .eq 24, 3) := by decide +kernel
theorem dX10_voids_58 : decode cX10_voids 58 = .ok (.iload 9, 2) := by decide +kernel
theorem dX10_voids_60 : decode cX10_voids 60 = .ok (.iload 4, 2) := by decide +kernel
theorem dX10_voids_62 : decode cX10_voids 62 = .ok (.iload 5, 2) := by decide +kernel
theorem dX10_voids_64 : decode cX10_voids 64 = .ok (.invokestatic 69, 3) := by decide +kernel
theorem dX10_voids_67 : decode cX10_voids 67 = .ok (.ifCond .ne 12, 3) := by decide +kernel
theorem dX10_voids_70 : decode cX10_voids 70 = .ok (.aload_n 0, 1) := by decide +kernel
theorem dX10_voids_71 : decode cX10_voids 71 = .ok (.iload 8, 2) := by decide +kernel
theorem dX10_voids_73 : decode cX10_voids 73 = .ok (.invokevirtual 97, 3) := by decide +kernel
theorem dX10_voids_76 : decode cX10_voids 76 = .ok (.iinc 7 1, 3) := by decide +kernel
theorem dX10_voids_79 : decode cX10_voids 79 = .ok (.iinc 8 (-1), 3) := by decide +kernel
theorem dX10_voids_82 : decode cX10_voids 82 = .ok (.goto (-64), 3) := by decide +kernel
theorem dX10_voids_85 : decode cX10_voids 85 = .ok (.aload_n 0, 1) := by decide +kernel
theorem dX10_voids_86 : decode cX10_voids 86 = .ok (.getfield 36, 3) := by decide +kernel
theorem dX10_voids_89 : decode cX10_voids 89 = .ok (.iconst 4, 1) := by decide +kernel
theorem dX10_voids_90 : decode cX10_voids 90 = .ok (.dup2, 1) := by decide +kernel
theorem dX10_voids_91 : decode cX10_voids 91 = .ok (.iaload, 1) := by decide +kernel
theorem dX10_voids_92 : decode cX10_voids 92 = .ok (.iload 7, 2) := by decide +kernel
theorem dX10_voids_94 : decode cX10_voids 94 = .ok (.iadd, 1) := by decide +kernel
theorem dX10_voids_95 : decode cX10_voids 95 = .ok (.iastore, 1) := by decide +kernel
theorem dX10_voids_96 : decode cX10_voids 96 = .ok (.iload 7, 2) := by decide +kernel
theorem dX10_voids_98 : decode cX10_voids 98 = .ok (.ireturn, 1) := by decide +kernel
end
section
theorem dL_law_0 : decode cL_law 0 = .ok (.new 7, 3) := by decide +kernel
theorem dL_law_3 : decode cL_law 3 = .ok (.dup, 1) := by decide +kernel
theorem dL_law_4 : decode cL_law 4 = .ok (.invokespecial 9, 3) := by decide +kernel
theorem dL_law_7 : decode cL_law 7 = .ok (.astore_n 1, 1) := by decide +kernel
theorem dL_law_8 : decode cL_law 8 = .ok (.new 10, 3) := by decide +kernel
theorem dL_law_11 : decode cL_law 11 = .ok (.dup, 1) := by decide +kernel
theorem dL_law_12 : decode cL_law 12 = .ok (.invokespecial 12, 3) := by decide +kernel
theorem dL_law_15 : decode cL_law 15 = .ok (.astore_n 2, 1) := by decide +kernel
theorem dL_law_16 : decode cL_law 16 = .ok (.iconst 0, 1) := by decide +kernel
theorem dL_law_17 : decode cL_law 17 = .ok (.istore_n 3, 1) := by decide +kernel
theorem dL_law_18 : decode cL_law 18 = .ok (.iload_n 3, 1) := by decide +kernel
theorem dL_law_19 : decode cL_law 19 = .ok (.aload_n 0, 1) := by decide +kernel
theorem dL_law_20 : decode cL_law 20 = .ok (.arraylength, 1) := by decide +kernel
theorem dL_law_21 : decode cL_law 21 = .ok (.bipush 6, 2) := by decide +kernel
theorem dL_law_23 : decode cL_law 23 = .ok (.isub, 1) := by decide +kernel
theorem dL_law_24 : decode cL_law 24 = .ok (.if_icmp .gt 829, 3) := by decide +kernel
theorem dL_law_27 : decode cL_law 27 = .ok (.aload_n 0, 1) := by decide +kernel
theorem dL_law_28 : decode cL_law 28 = .ok (.iload_n 3, 1) := by decide +kernel
theorem dL_law_29 : decode cL_law 29 = .ok (.iaload, 1) := by decide +kernel
theorem dL_law_30 : decode cL_law 30 = .ok (.bipush 31, 2) := by decide +kernel
theorem dL_law_32 : decode cL_law 32 = .ok (.iand, 1) := by decide +kernel
theorem dL_law_33 : decode cL_law 33 = .ok (.tableswitch 814 0 23 #[111, 124, 147, 190, 233, 276, 289, 322, 355, 388, 451, 504, 557, 600, 623, 656, 679, 702, 715, 728, 741, 754, 777, 800], 111) := by decide +kernel
theorem dL_law_144 : decode cL_law 144 = .ok (.aload_n 1, 1) := by decide +kernel
theorem dL_law_145 : decode cL_law 145 = .ok (.invokevirtual 13, 3) := by decide +kernel
theorem dL_law_148 : decode cL_law 148 = .ok (.aload_n 2, 1) := by decide +kernel
theorem dL_law_149 : decode cL_law 149 = .ok (.invokevirtual 17, 3) := by decide +kernel
theorem dL_law_152 : decode cL_law 152 = .ok (.if_icmp .eq 695, 3) := by decide +kernel
theorem dL_law_155 : decode cL_law 155 = .ok (.iconst 0, 1) := by decide +kernel
theorem dL_law_156 : decode cL_law 156 = .ok (.ireturn, 1) := by decide +kernel
theorem dL_law_157 : decode cL_law 157 = .ok (.aload_n 1, 1) := by decide +kernel
theorem dL_law_158 : decode cL_law 158 = .ok (.aload_n 0, 1) := by decide +kernel
theorem dL_law_159 : decode cL_law 159 = .ok (.iload_n 3, 1) := by decide +kernel
theorem dL_law_160 : decode cL_law 160 = .ok (.iconst 1, 1) := by decide +kernel
theorem dL_law_161 : decode cL_law 161 = .ok (.iadd, 1) := by decide +kernel
theorem dL_law_162 : decode cL_law 162 = .ok (.iaload, 1) := by decide +kernel
theorem dL_law_163 : decode cL_law 163 = .ok (.invokevirtual 18, 3) := by decide +kernel
theorem dL_law_166 : decode cL_law 166 = .ok (.aload_n 2, 1) := by decide +kernel
theorem dL_law_167 : decode cL_law 167 = .ok (.aload_n 0, 1) := by decide +kernel
theorem dL_law_168 : decode cL_law 168 = .ok (.iload_n 3, 1) := by decide +kernel
theorem dL_law_169 : decode cL_law 169 = .ok (.iconst 1, 1) := by decide +kernel
theorem dL_law_170 : decode cL_law 170 = .ok (.iadd, 1) := by decide +kernel
theorem dL_law_171 : decode cL_law 171 = .ok (.iaload, 1) := by decide +kernel
theorem dL_law_172 : decode cL_law 172 = .ok (.invokevirtual 22, 3) := by decide +kernel
theorem dL_law_175 : decode cL_law 175 = .ok (.if_icmp .eq 672, 3) := by decide +kernel
theorem dL_law_178 : decode cL_law 178 = .ok (.iconst 0, 1) := by decide +kernel
theorem dL_law_179 : decode cL_law 179 = .ok (.ireturn, 1) := by decide +kernel
theorem dL_law_180 : decode cL_law 180 = .ok (.aload_n 1, 1) := by decide +kernel
theorem dL_law_181 : decode cL_law 181 = .ok (.aload_n 0, 1) := by decide +kernel
theorem dL_law_182 : decode cL_law 182 = .ok (.iload_n 3, 1) := by decide +kernel
theorem dL_law_183 : decode cL_law 183 = .ok (.iconst 1, 1) := by decide +kernel
theorem dL_law_184 : decode cL_law 184 = .ok (.iadd, 1) := by decide +kernel
theorem dL_law_185 : decode cL_law 185 = .ok (.iaload, 1) := by decide +kernel
theorem dL_law_186 : decode cL_law 186 = .ok (.aload_n 0, 1) := by decide +kernel
theorem dL_law_187 : decode cL_law 187 = .ok (.iload_n 3, 1) := by decide +kernel
theorem dL_law_188 : decode cL_law 188 = .ok (.iconst 2, 1) := by decide +kernel
theorem dL_law_189 : decode cL_law 189 = .ok (.iadd, 1) := by decide +kernel
theorem dL_law_190 : decode cL_law 190 = .ok (.iaload, 1) := by decide +kernel
theorem dL_law_191 : decode cL_law 191 = .ok (.aload_n 0, 1) := by decide +kernel
theorem dL_law_192 : decode cL_law 192 = .ok (.iload_n 3, 1) := by decide +kernel
theorem dL_law_193 : decode cL_law 193 = .ok (.iconst 3, 1) := by decide +kernel
theorem dL_law_194 : decode cL_law 194 = .ok (.iadd, 1) := by decide +kernel
theorem dL_law_195 : decode cL_law 195 = .ok (.iaload, 1) := by decide +kernel
theorem dL_law_196 : decode cL_law 196 = .ok (.invokevirtual 23, 3) := by decide +kernel
theorem dL_law_199 : decode cL_law 199 = .ok (.aload_n 2, 1) := by decide +kernel
theorem dL_law_200 : decode cL_law 200 = .ok (.aload_n 0, 1) := by decide +kernel
theorem dL_law_201 : decode cL_law 201 = .ok (.iload_n 3, 1) := by decide +kernel
theorem dL_law_202 : decode cL_law 202 = .ok (.iconst 1, 1) := by decide +kernel
theorem dL_law_203 : decode cL_law 203 = .ok (.iadd, 1) := by decide +kernel
theorem dL_law_204 : decode cL_law 204 = .ok (.iaload, 1) := by decide +kernel
theorem dL_law_205 : decode cL_law 205 = .ok (.aload_n 0, 1) := by decide +kernel
theorem dL_law_206 : decode cL_law 206 = .ok (.iload_n 3, 1) := by decide +kernel
theorem dL_law_207 : decode cL_law 207 = .ok (.iconst 2, 1) := by decide +kernel
theorem dL_law_208 : decode cL_law 208 = .ok (.iadd, 1) := by decide +kernel
theorem dL_law_209 : decode cL_law 209 = .ok (.iaload, 1) := by decide +kernel
theorem dL_law_210 : decode cL_law 210 = .ok (.aload_n 0, 1) := by decide +kernel
theorem dL_law_211 : decode cL_law 211 = .ok (.iload_n 3, 1) := by decide +kernel
theorem dL_law_212 : decode cL_law 212 = .ok (.iconst 3, 1) := by decide +kernel
theorem dL_law_213 : decode cL_law 213 = .ok (.iadd, 1) := by decide +kernel
theorem dL_law_214 : decode cL_law 214 = .ok (.iaload, 1) := by decide +kernel
theorem dL_law_215 : decode cL_law 215 = .ok (.invokevirtual 27, 3) := by decide +kernel
theorem dL_law_218 : decode cL_law 218 = .ok (.if_icmp .eq 629, 3) := by decide +kernel
theorem dL_law_221 : decode cL_law 221 = .ok (.iconst 0, 1) := by decide +kernel
theorem dL_law_222 : decode cL_law 222 = .ok (.ireturn, 1) := by decide +kernel
theorem dL_law_223 : decode cL_law 223 = .ok (.aload_n 1, 1) := by decide +kernel
theorem dL_law_224 : decode cL_law 224 = .ok (.aload_n 0, 1) := by decide +kernel
theorem dL_law_225 : decode cL_law 225 = .ok (.iload_n 3, 1) := by decide +kernel
theorem dL_law_226 : decode cL_law 226 = .ok (.iconst 1, 1) := by decide +kernel
theorem dL_law_227 : decode cL_law 227 = .ok (.iadd, 1) := by decide +kernel
theorem dL_law_228 : decode cL_law 228 = .ok (.iaload, 1) := by decide +kernel
theorem dL_law_229 : decode cL_law 229 = .ok (.aload_n 0, 1) := by decide +kernel
theorem dL_law_230 : decode cL_law 230 = .ok (.iload_n 3, 1) := by decide +kernel
theorem dL_law_231 : decode cL_law 231 = .ok (.iconst 2, 1) := by decide +kernel
theorem dL_law_232 : decode cL_law 232 = .ok (.iadd, 1) := by decide +kernel
theorem dL_law_233 : decode cL_law 233 = .ok (.iaload, 1) := by decide +kernel
theorem dL_law_234 : decode cL_law 234 = .ok (.aload_n 0, 1) := by decide +kernel
theorem dL_law_235 : decode cL_law 235 = .ok (.iload_n 3, 1) := by decide +kernel
theorem dL_law_236 : decode cL_law 236 = .ok (.iconst 3, 1) := by decide +kernel
theorem dL_law_237 : decode cL_law 237 = .ok (.iadd, 1) := by decide +kernel
theorem dL_law_238 : decode cL_law 238 = .ok (.iaload, 1) := by decide +kernel
theorem dL_law_239 : decode cL_law 239 = .ok (.invokevirtual 28, 3) := by decide +kernel
theorem dL_law_242 : decode cL_law 242 = .ok (.aload_n 2, 1) := by decide +kernel
theorem dL_law_243 : decode cL_law 243 = .ok (.aload_n 0, 1) := by decide +kernel
theorem dL_law_244 : decode cL_law 244 = .ok (.iload_n 3, 1) := by decide +kernel
theorem dL_law_245 : decode cL_law 245 = .ok (.iconst 1, 1) := by decide +kernel
theorem dL_law_246 : decode cL_law 246 = .ok (.iadd, 1) := by decide +kernel
theorem dL_law_247 : decode cL_law 247 = .ok (.iaload, 1) := by decide +kernel
theorem dL_law_248 : decode cL_law 248 = .ok (.aload_n 0, 1) := by decide +kernel
theorem dL_law_249 : decode cL_law 249 = .ok (.iload_n 3, 1) := by decide +kernel
theorem dL_law_250 : decode cL_law 250 = .ok (.iconst 2, 1) := by decide +kernel
theorem dL_law_251 : decode cL_law 251 = .ok (.iadd, 1) := by decide +kernel
theorem dL_law_252 : decode cL_law 252 = .ok (.iaload, 1) := by decide +kernel
theorem dL_law_253 : decode cL_law 253 = .ok (.aload_n 0, 1) := by decide +kernel
theorem dL_law_254 : decode cL_law 254 = .ok (.iload_n 3, 1) := by decide +kernel
theorem dL_law_255 : decode cL_law 255 = .ok (.iconst 3, 1) := by decide +kernel
theorem dL_law_256 : decode cL_law 256 = .ok (.iadd, 1) := by decide +kernel
theorem dL_law_257 : decode cL_law 257 = .ok (.iaload, 1) := by decide +kernel
theorem dL_law_258 : decode cL_law 258 = .ok (.invokevirtual 31, 3) := by decide +kernel
theorem dL_law_261 : decode cL_law 261 = .ok (.if_icmp .eq 586, 3) := by decide +kernel
theorem dL_law_264 : decode cL_law 264 = .ok (.iconst 0, 1) := by decide +kernel
theorem dL_law_265 : decode cL_law 265 = .ok (.ireturn, 1) := by decide +kernel
theorem dL_law_266 : decode cL_law 266 = .ok (.aload_n 1, 1) := by decide +kernel
theorem dL_law_267 : decode cL_law 267 = .ok (.aload_n 0, 1) := by decide +kernel
theorem dL_law_268 : decode cL_law 268 = .ok (.iload_n 3, 1) := by decide +kernel
theorem dL_law_269 : decode cL_law 269 = .ok (.iconst 1, 1) := by decide +kernel
theorem dL_law_270 : decode cL_law 270 = .ok (.iadd, 1) := by decide +kernel
theorem dL_law_271 : decode cL_law 271 = .ok (.iaload, 1) := by decide +kernel
theorem dL_law_272 : decode cL_law 272 = .ok (.aload_n 0, 1) := by decide +kernel
theorem dL_law_273 : decode cL_law 273 = .ok (.iload_n 3, 1) := by decide +kernel
theorem dL_law_274 : decode cL_law 274 = .ok (.iconst 2, 1) := by decide +kernel
theorem dL_law_275 : decode cL_law 275 = .ok (.iadd, 1) := by decide +kernel
theorem dL_law_276 : decode cL_law 276 = .ok (.iaload, 1) := by decide +kernel
theorem dL_law_277 : decode cL_law 277 = .ok (.aload_n 0, 1) := by decide +kernel
theorem dL_law_278 : decode cL_law 278 = .ok (.iload_n 3, 1) := by decide +kernel
theorem dL_law_279 : decode cL_law 279 = .ok (.iconst 3, 1) := by decide +kernel
theorem dL_law_280 : decode cL_law 280 = .ok (.iadd, 1) := by decide +kernel
theorem dL_law_281 : decode cL_law 281 = .ok (.iaload, 1) := by decide +kernel
theorem dL_law_282 : decode cL_law 282 = .ok (.invokevirtual 32, 3) := by decide +kernel
theorem dL_law_285 : decode cL_law 285 = .ok (.aload_n 2, 1) := by decide +kernel
theorem dL_law_286 : decode cL_law 286 = .ok (.aload_n 0, 1) := by decide +kernel
theorem dL_law_287 : decode cL_law 287 = .ok (.iload_n 3, 1) := by decide +kernel
theorem dL_law_288 : decode cL_law 288 = .ok (.iconst 1, 1) := by decide +kernel
theorem dL_law_289 : decode cL_law 289 = .ok (.iadd, 1) := by decide +kernel
theorem dL_law_290 : decode cL_law 290 = .ok (.iaload, 1) := by decide +kernel
theorem dL_law_291 : decode cL_law 291 = .ok (.aload_n 0, 1) := by decide +kernel
theorem dL_law_292 : decode cL_law 292 = .ok (.iload_n 3, 1) := by decide +kernel
theorem dL_law_293 : decode cL_law 293 = .ok (.iconst 2, 1) := by decide +kernel
theorem dL_law_294 : decode cL_law 294 = .ok (.iadd, 1) := by decide +kernel
theorem dL_law_295 : decode cL_law 295 = .ok (.iaload, 1) := by decide +kernel
theorem dL_law_296 : decode cL_law 296 = .ok (.aload_n 0, 1) := by decide +kernel
theorem dL_law_297 : decode cL_law 297 = .ok (.iload_n 3, 1) := by decide +kernel
theorem dL_law_298 : decode cL_law 298 = .ok (.iconst 3, 1) := by decide +kernel
theorem dL_law_299 : decode cL_law 299 = .ok (.iadd, 1) := by decide +kernel
theorem dL_law_300 : decode cL_law 300 = .ok (.iaload, 1) := by decide +kernel
theorem dL_law_301 : decode cL_law 301 = .ok (.invokevirtual 35, 3) := by decide +kernel
theorem dL_law_304 : decode cL_law 304 = .ok (.if_icmp .eq 543, 3) := by decide +kernel
theorem dL_law_307 : decode cL_law 307 = .ok (.iconst 0, 1) := by decide +kernel
theorem dL_law_308 : decode cL_law 308 = .ok (.ireturn, 1) := by decide +kernel
theorem dL_law_309 : decode cL_law 309 = .ok (.aload_n 1, 1) := by decide +kernel
theorem dL_law_310 : decode cL_law 310 = .ok (.invokevirtual 36, 3) := by decide +kernel
theorem dL_law_313 : decode cL_law 313 = .ok (.aload_n 2, 1) := by decide +kernel
theorem dL_law_314 : decode cL_law 314 = .ok (.invokevirtual 39, 3) := by decide +kernel
theorem dL_law_317 : decode cL_law 317 = .ok (.if_icmp .eq 530, 3) := by decide +kernel
theorem dL_law_320 : decode cL_law 320 = .ok (.iconst 0, 1) := by decide +kernel
theorem dL_law_321 : decode cL_law 321 = .ok (.ireturn, 1) := by decide +kernel
theorem dL_law_322 : decode cL_law 322 = .ok (.aload_n 1, 1) := by decide +kernel
theorem dL_law_323 : decode cL_law 323 = .ok (.aload_n 0, 1) := by decide +kernel
theorem dL_law_324 : decode cL_law 324 = .ok (.iload_n 3, 1) := by decide +kernel
theorem dL_law_325 : decode cL_law 325 = .ok (.iconst 1, 1) := by decide +kernel
theorem dL_law_326 : decode cL_law 326 = .ok (.iadd, 1) := by decide +kernel
theorem dL_law_327 : decode cL_law 327 = .ok (.iaload, 1) := by decide +kernel
theorem dL_law_328 : decode cL_law 328 = .ok (.aload_n 0, 1) := by decide +kernel
theorem dL_law_329 : decode cL_law 329 = .ok (.iload_n 3, 1) := by decide +kernel
theorem dL_law_330 : decode cL_law 330 = .ok (.iconst 2, 1) := by decide +kernel
theorem dL_law_331 : decode cL_law 331 = .ok (.iadd, 1) := by decide +kernel
theorem dL_law_332 : decode cL_law 332 = .ok (.iaload, 1) := by decide +kernel
theorem dL_law_333 : decode cL_law 333 = .ok (.invokevirtual 40, 3) := by decide +kernel
theorem dL_law_336 : decode cL_law 336 = .ok (.aload_n 2, 1) := by decide +kernel
theorem dL_law_337 : decode cL_law 337 = .ok (.aload_n 0, 1) := by decide +kernel
theorem dL_law_338 : decode cL_law 338 = .ok (.iload_n 3, 1) := by decide +kernel
theorem dL_law_339 : decode cL_law 339 = .ok (.iconst 1, 1) := by decide +kernel
theorem dL_law_340 : decode cL_law 340 = .ok (.iadd, 1) := by decide +kernel
theorem dL_law_341 : decode cL_law 341 = .ok (.iaload, 1) := by decide +kernel
theorem dL_law_342 : decode cL_law 342 = .ok (.aload_n 0, 1) := by decide +kernel
theorem dL_law_343 : decode cL_law 343 = .ok (.iload_n 3, 1) := by decide +kernel
theorem dL_law_344 : decode cL_law 344 = .ok (.iconst 2, 1) := by decide +kernel
theorem dL_law_345 : decode cL_law 345 = .ok (.iadd, 1) := by decide +kernel
theorem dL_law_346 : decode cL_law 346 = .ok (.iaload, 1) := by decide +kernel
theorem dL_law_347 : decode cL_law 347 = .ok (.invokevirtual 44, 3) := by decide +kernel
theorem dL_law_350 : decode cL_law 350 = .ok (.if_icmp .eq 497, 3) := by decide +kernel
theorem dL_law_353 : decode cL_law 353 = .ok (.iconst 0, 1) := by decide +kernel
theorem dL_law_354 : decode cL_law 354 = .ok (.ireturn, 1) := by decide +kernel
theorem dL_law_355 : decode cL_law 355 = .ok (.aload_n 1, 1) := by decide +kernel
theorem dL_law_356 : decode cL_law 356 = .ok (.aload_n 0, 1) := by decide +kernel
theorem dL_law_357 : decode cL_law 357 = .ok (.iload_n 3, 1) := by decide +kernel
theorem dL_law_358 : decode cL_law 358 = .ok (.iconst 1, 1) := by decide +kernel
theorem dL_law_359 : decode cL_law 359 = .ok (.iadd, 1) := by decide +kernel
theorem dL_law_360 : decode cL_law 360 = .ok (.iaload, 1) := by decide +kernel
theorem dL_law_361 : decode cL_law 361 = .ok (.aload_n 0, 1) := by decide +kernel
theorem dL_law_362 : decode cL_law 362 = .ok (.iload_n 3, 1) := by decide +kernel
theorem dL_law_363 : decode cL_law 363 = .ok (.iconst 2, 1) := by decide +kernel
theorem dL_law_364 : decode cL_law 364 = .ok (.iadd, 1) := by decide +kernel
theorem dL_law_365 : decode cL_law 365 = .ok (.iaload, 1) := by decide +kernel
theorem dL_law_366 : decode cL_law 366 = .ok (.invokevirtual 45, 3) := by decide +kernel
theorem dL_law_369 : decode cL_law 369 = .ok (.aload_n 2, 1) := by decide +kernel
theorem dL_law_370 : decode cL_law 370 = .ok (.aload_n 0, 1) := by decide +kernel
theorem dL_law_371 : decode cL_law 371 = .ok (.iload_n 3, 1) := by decide +kernel
theorem dL_law_372 : decode cL_law 372 = .ok (.iconst 1, 1) := by decide +kernel
theorem dL_law_373 : decode cL_law 373 = .ok (.iadd, 1) := by decide +kernel
theorem dL_law_374 : decode cL_law 374 = .ok (.iaload, 1) := by decide +kernel
theorem dL_law_375 : decode cL_law 375 = .ok (.aload_n 0, 1) := by decide +kernel
theorem dL_law_376 : decode cL_law 376 = .ok (.iload_n 3, 1) := by decide +kernel
theorem dL_law_377 : decode cL_law 377 = .ok (.iconst 2, 1) := by decide +kernel
theorem dL_law_378 : decode cL_law 378 = .ok (.iadd, 1) := by decide +kernel
theorem dL_law_379 : decode cL_law 379 = .ok (.iaload, 1) := by decide +kernel
theorem dL_law_380 : decode cL_law 380 = .ok (.invokevirtual 48, 3) := by decide +kernel
theorem dL_law_383 : decode cL_law 383 = .ok (.if_icmp .eq 464, 3) := by decide +kernel
theorem dL_law_386 : decode cL_law 386 = .ok (.iconst 0, 1) := by decide +kernel
theorem dL_law_387 : decode cL_law 387 = .ok (.ireturn, 1) := by decide +kernel
theorem dL_law_388 : decode cL_law 388 = .ok (.aload_n 1, 1) := by decide +kernel
theorem dL_law_389 : decode cL_law 389 = .ok (.aload_n 0, 1) := by decide +kernel
theorem dL_law_390 : decode cL_law 390 = .ok (.iload_n 3, 1) := by decide +kernel
theorem dL_law_391 : decode cL_law 391 = .ok (.iconst 1, 1) := by decide +kernel
theorem dL_law_392 : decode cL_law 392 = .ok (.iadd, 1) := by decide +kernel
theorem dL_law_393 : decode cL_law 393 = .ok (.iaload, 1) := by decide +kernel
theorem dL_law_394 : decode cL_law 394 = .ok (.aload_n 0, 1) := by decide +kernel
theorem dL_law_395 : decode cL_law 395 = .ok (.iload_n 3, 1) := by decide +kernel
theorem dL_law_396 : decode cL_law 396 = .ok (.iconst 2, 1) := by decide +kernel
theorem dL_law_397 : decode cL_law 397 = .ok (.iadd, 1) := by decide +kernel
theorem dL_law_398 : decode cL_law 398 = .ok (.iaload, 1) := by decide +kernel
theorem dL_law_399 : decode cL_law 399 = .ok (.invokevirtual 49, 3) := by decide +kernel
theorem dL_law_402 : decode cL_law 402 = .ok (.aload_n 2, 1) := by decide +kernel
theorem dL_law_403 : decode cL_law 403 = .ok (.aload_n 0, 1) := by decide +kernel
theorem dL_law_404 : decode cL_law 404 = .ok (.iload_n 3, 1) := by decide +kernel
theorem dL_law_405 : decode cL_law 405 = .ok (.iconst 1, 1) := by decide +kernel
theorem dL_law_406 : decode cL_law 406 = .ok (.iadd, 1) := by decide +kernel
theorem dL_law_407 : decode cL_law 407 = .ok (.iaload, 1) := by decide +kernel
theorem dL_law_408 : decode cL_law 408 = .ok (.aload_n 0, 1) := by decide +kernel
theorem dL_law_409 : decode cL_law 409 = .ok (.iload_n 3, 1) := by decide +kernel
theorem dL_law_410 : decode cL_law 410 = .ok (.iconst 2, 1) := by decide +kernel
theorem dL_law_411 : decode cL_law 411 = .ok (.iadd, 1) := by decide +kernel
theorem dL_law_412 : decode cL_law 412 = .ok (.iaload, 1) := by decide +kernel
theorem dL_law_413 : decode cL_law 413 = .ok (.invokevirtual 52, 3) := by decide +kernel
theorem dL_law_416 : decode cL_law 416 = .ok (.if_icmp .eq 431, 3) := by decide +kernel
theorem dL_law_419 : decode cL_law 419 = .ok (.iconst 0, 1) := by decide +kernel
theorem dL_law_420 : decode cL_law 420 = .ok (.ireturn, 1) := by decide +kernel
theorem dL_law_421 : decode cL_law 421 = .ok (.aload_n 1, 1) := by decide +kernel
theorem dL_law_422 : decode cL_law 422 = .ok (.aload_n 0, 1) := by decide +kernel
theorem dL_law_423 : decode cL_law 423 = .ok (.iload_n 3, 1) := by decide +kernel
theorem dL_law_424 : decode cL_law 424 = .ok (.iconst 1, 1) := by decide +kernel
theorem dL_law_425 : decode cL_law 425 = .ok (.iadd, 1) := by decide +kernel
theorem dL_law_426 : decode cL_law 426 = .ok (.iaload, 1) := by decide +kernel
theorem dL_law_427 : decode cL_law 427 = .ok (.aload_n 0, 1) := by decide +kernel
theorem dL_law_428 : decode cL_law 428 = .ok (.iload_n 3, 1) := by decide +kernel
theorem dL_law_429 : decode cL_law 429 = .ok (.iconst 2, 1) := by decide +kernel
theorem dL_law_430 : decode cL_law 430 = .ok (.iadd, 1) := by decide +kernel
theorem dL_law_431 : decode cL_law 431 = .ok (.iaload, 1) := by decide +kernel
theorem dL_law_432 : decode cL_law 432 = .ok (.aload_n 0, 1) := by decide +kernel
theorem dL_law_433 : decode cL_law 433 = .ok (.iload_n 3, 1) := by decide +kernel
theorem dL_law_434 : decode cL_law 434 = .ok (.iconst 3, 1) := by decide +kernel
theorem dL_law_435 : decode cL_law 435 = .ok (.iadd, 1) := by decide +kernel
theorem dL_law_436 : decode cL_law 436 = .ok (.iaload, 1) := by decide +kernel
theorem dL_law_437 : decode cL_law 437 = .ok (.aload_n 0, 1) := by decide +kernel
theorem dL_law_438 : decode cL_law 438 = .ok (.iload_n 3, 1) := by decide +kernel
theorem dL_law_439 : decode cL_law 439 = .ok (.iconst 4, 1) := by decide +kernel
theorem dL_law_440 : decode cL_law 440 = .ok (.iadd, 1) := by decide +kernel
theorem dL_law_441 : decode cL_law 441 = .ok (.iaload, 1) := by decide +kernel
theorem dL_law_442 : decode cL_law 442 = .ok (.aload_n 0, 1) := by decide +kernel
theorem dL_law_443 : decode cL_law 443 = .ok (.iload_n 3, 1) := by decide +kernel
theorem dL_law_444 : decode cL_law 444 = .ok (.iconst 5, 1) := by decide +kernel
theorem dL_law_445 : decode cL_law 445 = .ok (.iadd, 1) := by decide +kernel
theorem dL_law_446 : decode cL_law 446 = .ok (.iaload, 1) := by decide +kernel
theorem dL_law_447 : decode cL_law 447 = .ok (.invokevirtual 53, 3) := by decide +kernel
theorem dL_law_450 : decode cL_law 450 = .ok (.aload_n 2, 1) := by decide +kernel
theorem dL_law_451 : decode cL_law 451 = .ok (.aload_n 0, 1) := by decide +kernel
theorem dL_law_452 : decode cL_law 452 = .ok (.iload_n 3, 1) := by decide +kernel
theorem dL_law_453 : decode cL_law 453 = .ok (.iconst 1, 1) := by decide +kernel
theorem dL_law_454 : decode cL_law 454 = .ok (.iadd, 1) := by decide +kernel
theorem dL_law_455 : decode cL_law 455 = .ok (.iaload, 1) := by decide +kernel
theorem dL_law_456 : decode cL_law 456 = .ok (.aload_n 0, 1) := by decide +kernel
theorem dL_law_457 : decode cL_law 457 = .ok (.iload_n 3, 1) := by decide +kernel
theorem dL_law_458 : decode cL_law 458 = .ok (.iconst 2, 1) := by decide +kernel
theorem dL_law_459 : decode cL_law 459 = .ok (.iadd, 1) := by decide +kernel
theorem dL_law_460 : decode cL_law 460 = .ok (.iaload, 1) := by decide +kernel
theorem dL_law_461 : decode cL_law 461 = .ok (.aload_n 0, 1) := by decide +kernel
theorem dL_law_462 : decode cL_law 462 = .ok (.iload_n 3, 1) := by decide +kernel
theorem dL_law_463 : decode cL_law 463 = .ok (.iconst 3, 1) := by decide +kernel
theorem dL_law_464 : decode cL_law 464 = .ok (.iadd, 1) := by decide +kernel
theorem dL_law_465 : decode cL_law 465 = .ok (.iaload, 1) := by decide +kernel
theorem dL_law_466 : decode cL_law 466 = .ok (.aload_n 0, 1) := by decide +kernel
theorem dL_law_467 : decode cL_law 467 = .ok (.iload_n 3, 1) := by decide +kernel
theorem dL_law_468 : decode cL_law 468 = .ok (.iconst 4, 1) := by decide +kernel
theorem dL_law_469 : decode cL_law 469 = .ok (.iadd, 1) := by decide +kernel
theorem dL_law_470 : decode cL_law 470 = .ok (.iaload, 1) := by decide +kernel
theorem dL_law_471 : decode cL_law 471 = .ok (.aload_n 0, 1) := by decide +kernel
theorem dL_law_472 : decode cL_law 472 = .ok (.iload_n 3, 1) := by decide +kernel
theorem dL_law_473 : decode cL_law 473 = .ok (.iconst 5, 1) := by decide +kernel
theorem dL_law_474 : decode cL_law 474 = .ok (.iadd, 1) := by decide +kernel
theorem dL_law_475 : decode cL_law 475 = .ok (.iaload, 1) := by decide +kernel
theorem dL_law_476 : decode cL_law 476 = .ok (.invokevirtual 57, 3) := by decide +kernel
theorem dL_law_479 : decode cL_law 479 = .ok (.if_icmp .eq 368, 3) := by decide +kernel
theorem dL_law_482 : decode cL_law 482 = .ok (.iconst 0, 1) := by decide +kernel
theorem dL_law_483 : decode cL_law 483 = .ok (.ireturn, 1) := by decide +kernel
theorem dL_law_484 : decode cL_law 484 = .ok (.aload_n 1, 1) := by decide +kernel
theorem dL_law_485 : decode cL_law 485 = .ok (.aload_n 0, 1) := by decide +kernel
theorem dL_law_486 : decode cL_law 486 = .ok (.iload_n 3, 1) := by decide +kernel
theorem dL_law_487 : decode cL_law 487 = .ok (.iconst 1, 1) := by decide +kernel
theorem dL_law_488 : decode cL_law 488 = .ok (.iadd, 1) := by decide +kernel
theorem dL_law_489 : decode cL_law 489 = .ok (.iaload, 1) := by decide +kernel
theorem dL_law_490 : decode cL_law 490 = .ok (.aload_n 0, 1) := by decide +kernel
theorem dL_law_491 : decode cL_law 491 = .ok (.iload_n 3, 1) := by decide +kernel
theorem dL_law_492 : decode cL_law 492 = .ok (.iconst 2, 1) := by decide +kernel
theorem dL_law_493 : decode cL_law 493 = .ok (.iadd, 1) := by decide +kernel
theorem dL_law_494 : decode cL_law 494 = .ok (.iaload, 1) := by decide +kernel
theorem dL_law_495 : decode cL_law 495 = .ok (.aload_n 0, 1) := by decide +kernel
theorem dL_law_496 : decode cL_law 496 = .ok (.iload_n 3, 1) := by decide +kernel
theorem dL_law_497 : decode cL_law 497 = .ok (.iconst 3, 1) := by decide +kernel
theorem dL_law_498 : decode cL_law 498 = .ok (.iadd, 1) := by decide +kernel
theorem dL_law_499 : decode cL_law 499 = .ok (.iaload, 1) := by decide +kernel
theorem dL_law_500 : decode cL_law 500 = .ok (.aload_n 0, 1) := by decide +kernel
theorem dL_law_501 : decode cL_law 501 = .ok (.iload_n 3, 1) := by decide +kernel
theorem dL_law_502 : decode cL_law 502 = .ok (.iconst 4, 1) := by decide +kernel
theorem dL_law_503 : decode cL_law 503 = .ok (.iadd, 1) := by decide +kernel
theorem dL_law_504 : decode cL_law 504 = .ok (.iaload, 1) := by decide +kernel
theorem dL_law_505 : decode cL_law 505 = .ok (.invokevirtual 58, 3) := by decide +kernel
theorem dL_law_508 : decode cL_law 508 = .ok (.aload_n 2, 1) := by decide +kernel
theorem dL_law_509 : decode cL_law 509 = .ok (.aload_n 0, 1) := by decide +kernel
theorem dL_law_510 : decode cL_law 510 = .ok (.iload_n 3, 1) := by decide +kernel
theorem dL_law_511 : decode cL_law 511 = .ok (.iconst 1, 1) := by decide +kernel
theorem dL_law_512 : decode cL_law 512 = .ok (.iadd, 1) := by decide +kernel
theorem dL_law_513 : decode cL_law 513 = .ok (.iaload, 1) := by decide +kernel
theorem dL_law_514 : decode cL_law 514 = .ok (.aload_n 0, 1) := by decide +kernel
theorem dL_law_515 : decode cL_law 515 = .ok (.iload_n 3, 1) := by decide +kernel
theorem dL_law_516 : decode cL_law 516 = .ok (.iconst 2, 1) := by decide +kernel
theorem dL_law_517 : decode cL_law 517 = .ok (.iadd, 1) := by decide +kernel
theorem dL_law_518 : decode cL_law 518 = .ok (.iaload, 1) := by decide +kernel
theorem dL_law_519 : decode cL_law 519 = .ok (.aload_n 0, 1) := by decide +kernel
theorem dL_law_520 : decode cL_law 520 = .ok (.iload_n 3, 1) := by decide +kernel
theorem dL_law_521 : decode cL_law 521 = .ok (.iconst 3, 1) := by decide +kernel
theorem dL_law_522 : decode cL_law 522 = .ok (.iadd, 1) := by decide +kernel
theorem dL_law_523 : decode cL_law 523 = .ok (.iaload, 1) := by decide +kernel
theorem dL_law_524 : decode cL_law 524 = .ok (.aload_n 0, 1) := by decide +kernel
theorem dL_law_525 : decode cL_law 525 = .ok (.iload_n 3, 1) := by decide +kernel
theorem dL_law_526 : decode cL_law 526 = .ok (.iconst 4, 1) := by decide +kernel
theorem dL_law_527 : decode cL_law 527 = .ok (.iadd, 1) := by decide +kernel
theorem dL_law_528 : decode cL_law 528 = .ok (.iaload, 1) := by decide +kernel
theorem dL_law_529 : decode cL_law 529 = .ok (.invokevirtual 62, 3) := by decide +kernel
theorem dL_law_532 : decode cL_law 532 = .ok (.if_icmp .eq 315, 3) := by decide +kernel
theorem dL_law_535 : decode cL_law 535 = .ok (.iconst 0, 1) := by decide +kernel
theorem dL_law_536 : decode cL_law 536 = .ok (.ireturn, 1) := by decide +kernel
theorem dL_law_537 : decode cL_law 537 = .ok (.aload_n 1, 1) := by decide +kernel
theorem dL_law_538 : decode cL_law 538 = .ok (.aload_n 0, 1) := by decide +kernel
theorem dL_law_539 : decode cL_law 539 = .ok (.iload_n 3, 1) := by decide +kernel
theorem dL_law_540 : decode cL_law 540 = .ok (.iconst 1, 1) := by decide +kernel
theorem dL_law_541 : decode cL_law 541 = .ok (.iadd, 1) := by decide +kernel
theorem dL_law_542 : decode cL_law 542 = .ok (.iaload, 1) := by decide +kernel
theorem dL_law_543 : decode cL_law 543 = .ok (.aload_n 0, 1) := by decide +kernel
theorem dL_law_544 : decode cL_law 544 = .ok (.iload_n 3, 1) := by decide +kernel
theorem dL_law_545 : decode cL_law 545 = .ok (.iconst 2, 1) := by decide +kernel
theorem dL_law_546 : decode cL_law 546 = .ok (.iadd, 1) := by decide +kernel
theorem dL_law_547 : decode cL_law 547 = .ok (.iaload, 1) := by decide +kernel
theorem dL_law_548 : decode cL_law 548 = .ok (.aload_n 0, 1) := by decide +kernel
theorem dL_law_549 : decode cL_law 549 = .ok (.iload_n 3, 1) := by decide +kernel
theorem dL_law_550 : decode cL_law 550 = .ok (.iconst 3, 1) := by decide +kernel
theorem dL_law_551 : decode cL_law 551 = .ok (.iadd, 1) := by decide +kernel
theorem dL_law_552 : decode cL_law 552 = .ok (.iaload, 1) := by decide +kernel
theorem dL_law_553 : decode cL_law 553 = .ok (.aload_n 0, 1) := by decide +kernel
theorem dL_law_554 : decode cL_law 554 = .ok (.iload_n 3, 1) := by decide +kernel
theorem dL_law_555 : decode cL_law 555 = .ok (.iconst 4, 1) := by decide +kernel
theorem dL_law_556 : decode cL_law 556 = .ok (.iadd, 1) := by decide +kernel
theorem dL_law_557 : decode cL_law 557 = .ok (.iaload, 1) := by decide +kernel
theorem dL_law_558 : decode cL_law 558 = .ok (.invokevirtual 63, 3) := by decide +kernel
theorem dL_law_561 : decode cL_law 561 = .ok (.aload_n 2, 1) := by decide +kernel
theorem dL_law_562 : decode cL_law 562 = .ok (.aload_n 0, 1) := by decide +kernel
theorem dL_law_563 : decode cL_law 563 = .ok (.iload_n 3, 1) := by decide +kernel
theorem dL_law_564 : decode cL_law 564 = .ok (.iconst 1, 1) := by decide +kernel
theorem dL_law_565 : decode cL_law 565 = .ok (.iadd, 1) := by decide +kernel
theorem dL_law_566 : decode cL_law 566 = .ok (.iaload, 1) := by decide +kernel
theorem dL_law_567 : decode cL_law 567 = .ok (.aload_n 0, 1) := by decide +kernel
theorem dL_law_568 : decode cL_law 568 = .ok (.iload_n 3, 1) := by decide +kernel
theorem dL_law_569 : decode cL_law 569 = .ok (.iconst 2, 1) := by decide +kernel
theorem dL_law_570 : decode cL_law 570 = .ok (.iadd, 1) := by decide +kernel
theorem dL_law_571 : decode cL_law 571 = .ok (.iaload, 1) := by decide +kernel
theorem dL_law_572 : decode cL_law 572 = .ok (.aload_n 0, 1) := by decide +kernel
theorem dL_law_573 : decode cL_law 573 = .ok (.iload_n 3, 1) := by decide +kernel
theorem dL_law_574 : decode cL_law 574 = .ok (.iconst 3, 1) := by decide +kernel
theorem dL_law_575 : decode cL_law 575 = .ok (.iadd, 1) := by decide +kernel
theorem dL_law_576 : decode cL_law 576 = .ok (.iaload, 1) := by decide +kernel
theorem dL_law_577 : decode cL_law 577 = .ok (.aload_n 0, 1) := by decide +kernel
theorem dL_law_578 : decode cL_law 578 = .ok (.iload_n 3, 1) := by decide +kernel
theorem dL_law_579 : decode cL_law 579 = .ok (.iconst 4, 1) := by decide +kernel
theorem dL_law_580 : decode cL_law 580 = .ok (.iadd, 1) := by decide +kernel
theorem dL_law_581 : decode cL_law 581 = .ok (.iaload, 1) := by decide +kernel
theorem dL_law_582 : decode cL_law 582 = .ok (.invokevirtual 66, 3) := by decide +kernel
theorem dL_law_585 : decode cL_law 585 = .ok (.if_icmp .eq 262, 3) := by decide +kernel
theorem dL_law_588 : decode cL_law 588 = .ok (.iconst 0, 1) := by decide +kernel
theorem dL_law_589 : decode cL_law 589 = .ok (.ireturn, 1) := by decide +kernel
theorem dL_law_590 : decode cL_law 590 = .ok (.aload_n 1, 1) := by decide +kernel
theorem dL_law_591 : decode cL_law 591 = .ok (.aload_n 0, 1) := by decide +kernel
theorem dL_law_592 : decode cL_law 592 = .ok (.iload_n 3, 1) := by decide +kernel
theorem dL_law_593 : decode cL_law 593 = .ok (.iconst 1, 1) := by decide +kernel
theorem dL_law_594 : decode cL_law 594 = .ok (.iadd, 1) := by decide +kernel
theorem dL_law_595 : decode cL_law 595 = .ok (.iaload, 1) := by decide +kernel
theorem dL_law_596 : decode cL_law 596 = .ok (.aload_n 0, 1) := by decide +kernel
theorem dL_law_597 : decode cL_law 597 = .ok (.iload_n 3, 1) := by decide +kernel
theorem dL_law_598 : decode cL_law 598 = .ok (.iconst 2, 1) := by decide +kernel
theorem dL_law_599 : decode cL_law 599 = .ok (.iadd, 1) := by decide +kernel
theorem dL_law_600 : decode cL_law 600 = .ok (.iaload, 1) := by decide +kernel
theorem dL_law_601 : decode cL_law 601 = .ok (.aload_n 0, 1) := by decide +kernel
theorem dL_law_602 : decode cL_law 602 = .ok (.iload_n 3, 1) := by decide +kernel
theorem dL_law_603 : decode cL_law 603 = .ok (.iconst 3, 1) := by decide +kernel
theorem dL_law_604 : decode cL_law 604 = .ok (.iadd, 1) := by decide +kernel
theorem dL_law_605 : decode cL_law 605 = .ok (.iaload, 1) := by decide +kernel
theorem dL_law_606 : decode cL_law 606 = .ok (.invokevirtual 67, 3) := by decide +kernel
theorem dL_law_609 : decode cL_law 609 = .ok (.aload_n 2, 1) := by decide +kernel
theorem dL_law_610 : decode cL_law 610 = .ok (.aload_n 0, 1) := by decide +kernel
theorem dL_law_611 : decode cL_law 611 = .ok (.iload_n 3, 1) := by decide +kernel
theorem dL_law_612 : decode cL_law 612 = .ok (.iconst 1, 1) := by decide +kernel
theorem dL_law_613 : decode cL_law 613 = .ok (.iadd, 1) := by decide +kernel
theorem dL_law_614 : decode cL_law 614 = .ok (.iaload, 1) := by decide +kernel
theorem dL_law_615 : decode cL_law 615 = .ok (.aload_n 0, 1) := by decide +kernel
theorem dL_law_616 : decode cL_law 616 = .ok (.iload_n 3, 1) := by decide +kernel
theorem dL_law_617 : decode cL_law 617 = .ok (.iconst 2, 1) := by decide +kernel
theorem dL_law_618 : decode cL_law 618 = .ok (.iadd, 1) := by decide +kernel
theorem dL_law_619 : decode cL_law 619 = .ok (.iaload, 1) := by decide +kernel
theorem dL_law_620 : decode cL_law 620 = .ok (.aload_n 0, 1) := by decide +kernel
theorem dL_law_621 : decode cL_law 621 = .ok (.iload_n 3, 1) := by decide +kernel
theorem dL_law_622 : decode cL_law 622 = .ok (.iconst 3, 1) := by decide +kernel
theorem dL_law_623 : decode cL_law 623 = .ok (.iadd, 1) := by decide +kernel
theorem dL_law_624 : decode cL_law 624 = .ok (.iaload, 1) := by decide +kernel
theorem dL_law_625 : decode cL_law 625 = .ok (.invokevirtual 70, 3) := by decide +kernel
theorem dL_law_628 : decode cL_law 628 = .ok (.if_icmp .eq 219, 3) := by decide +kernel
theorem dL_law_631 : decode cL_law 631 = .ok (.iconst 0, 1) := by decide +kernel
theorem dL_law_632 : decode cL_law 632 = .ok (.ireturn, 1) := by decide +kernel
theorem dL_law_633 : decode cL_law 633 = .ok (.aload_n 1, 1) := by decide +kernel
theorem dL_law_634 : decode cL_law 634 = .ok (.aload_n 0, 1) := by decide +kernel
theorem dL_law_635 : decode cL_law 635 = .ok (.iload_n 3, 1) := by decide +kernel
theorem dL_law_636 : decode cL_law 636 = .ok (.iconst 1, 1) := by decide +kernel
theorem dL_law_637 : decode cL_law 637 = .ok (.iadd, 1) := by decide +kernel
theorem dL_law_638 : decode cL_law 638 = .ok (.iaload, 1) := by decide +kernel
theorem dL_law_639 : decode cL_law 639 = .ok (.invokevirtual 71, 3) := by decide +kernel
theorem dL_law_642 : decode cL_law 642 = .ok (.aload_n 2, 1) := by decide +kernel
theorem dL_law_643 : decode cL_law 643 = .ok (.aload_n 0, 1) := by decide +kernel
theorem dL_law_644 : decode cL_law 644 = .ok (.iload_n 3, 1) := by decide +kernel
theorem dL_law_645 : decode cL_law 645 = .ok (.iconst 1, 1) := by decide +kernel
theorem dL_law_646 : decode cL_law 646 = .ok (.iadd, 1) := by decide +kernel
theorem dL_law_647 : decode cL_law 647 = .ok (.iaload, 1) := by decide +kernel
theorem dL_law_648 : decode cL_law 648 = .ok (.invokevirtual 74, 3) := by decide +kernel
theorem dL_law_651 : decode cL_law 651 = .ok (.if_icmp .eq 196, 3) := by decide +kernel
theorem dL_law_654 : decode cL_law 654 = .ok (.iconst 0, 1) := by decide +kernel
theorem dL_law_655 : decode cL_law 655 = .ok (.ireturn, 1) := by decide +kernel
theorem dL_law_656 : decode cL_law 656 = .ok (.aload_n 1, 1) := by decide +kernel
theorem dL_law_657 : decode cL_law 657 = .ok (.aload_n 0, 1) := by decide +kernel
theorem dL_law_658 : decode cL_law 658 = .ok (.iload_n 3, 1) := by decide +kernel
theorem dL_law_659 : decode cL_law 659 = .ok (.iconst 1, 1) := by decide +kernel
theorem dL_law_660 : decode cL_law 660 = .ok (.iadd, 1) := by decide +kernel
theorem dL_law_661 : decode cL_law 661 = .ok (.iaload, 1) := by decide +kernel
theorem dL_law_662 : decode cL_law 662 = .ok (.aload_n 0, 1) := by decide +kernel
theorem dL_law_663 : decode cL_law 663 = .ok (.iload_n 3, 1) := by decide +kernel
theorem dL_law_664 : decode cL_law 664 = .ok (.iconst 2, 1) := by decide +kernel
theorem dL_law_665 : decode cL_law 665 = .ok (.iadd, 1) := by decide +kernel
theorem dL_law_666 : decode cL_law 666 = .ok (.iaload, 1) := by decide +kernel
theorem dL_law_667 : decode cL_law 667 = .ok (.invokevirtual 75, 3) := by decide +kernel
theorem dL_law_670 : decode cL_law 670 = .ok (.aload_n 2, 1) := by decide +kernel
theorem dL_law_671 : decode cL_law 671 = .ok (.aload_n 0, 1) := by decide +kernel
theorem dL_law_672 : decode cL_law 672 = .ok (.iload_n 3, 1) := by decide +kernel
theorem dL_law_673 : decode cL_law 673 = .ok (.iconst 1, 1) := by decide +kernel
theorem dL_law_674 : decode cL_law 674 = .ok (.iadd, 1) := by decide +kernel
theorem dL_law_675 : decode cL_law 675 = .ok (.iaload, 1) := by decide +kernel
theorem dL_law_676 : decode cL_law 676 = .ok (.aload_n 0, 1) := by decide +kernel
theorem dL_law_677 : decode cL_law 677 = .ok (.iload_n 3, 1) := by decide +kernel
theorem dL_law_678 : decode cL_law 678 = .ok (.iconst 2, 1) := by decide +kernel
theorem dL_law_679 : decode cL_law 679 = .ok (.iadd, 1) := by decide +kernel
theorem dL_law_680 : decode cL_law 680 = .ok (.iaload, 1) := by decide +kernel
theorem dL_law_681 : decode cL_law 681 = .ok (.invokevirtual 78, 3) := by decide +kernel
theorem dL_law_684 : decode cL_law 684 = .ok (.if_icmp .eq 163, 3) := by decide +kernel
theorem dL_law_687 : decode cL_law 687 = .ok (.iconst 0, 1) := by decide +kernel
theorem dL_law_688 : decode cL_law 688 = .ok (.ireturn, 1) := by decide +kernel
theorem dL_law_689 : decode cL_law 689 = .ok (.aload_n 1, 1) := by decide +kernel
theorem dL_law_690 : decode cL_law 690 = .ok (.aload_n 0, 1) := by decide +kernel
theorem dL_law_691 : decode cL_law 691 = .ok (.iload_n 3, 1) := by decide +kernel
theorem dL_law_692 : decode cL_law 692 = .ok (.iconst 1, 1) := by decide +kernel
theorem dL_law_693 : decode cL_law 693 = .ok (.iadd, 1) := by decide +kernel
theorem dL_law_694 : decode cL_law 694 = .ok (.iaload, 1) := by decide +kernel
theorem dL_law_695 : decode cL_law 695 = .ok (.invokevirtual 79, 3) := by decide +kernel
theorem dL_law_698 : decode cL_law 698 = .ok (.aload_n 2, 1) := by decide +kernel
theorem dL_law_699 : decode cL_law 699 = .ok (.aload_n 0, 1) := by decide +kernel
theorem dL_law_700 : decode cL_law 700 = .ok (.iload_n 3, 1) := by decide +kernel
theorem dL_law_701 : decode cL_law 701 = .ok (.iconst 1, 1) := by decide +kernel
theorem dL_law_702 : decode cL_law 702 = .ok (.iadd, 1) := by decide +kernel
theorem dL_law_703 : decode cL_law 703 = .ok (.iaload, 1) := by decide +kernel
theorem dL_law_704 : decode cL_law 704 = .ok (.invokevirtual 82, 3) := by decide +kernel
theorem dL_law_707 : decode cL_law 707 = .ok (.if_icmp .eq 140, 3) := by decide +kernel
theorem dL_law_710 : decode cL_law 710 = .ok (.iconst 0, 1) := by decide +kernel
theorem dL_law_711 : decode cL_law 711 = .ok (.ireturn, 1) := by decide +kernel
theorem dL_law_712 : decode cL_law 712 = .ok (.aload_n 1, 1) := by decide +kernel
theorem dL_law_713 : decode cL_law 713 = .ok (.aload_n 0, 1) := by decide +kernel
theorem dL_law_714 : decode cL_law 714 = .ok (.iload_n 3, 1) := by decide +kernel
theorem dL_law_715 : decode cL_law 715 = .ok (.iconst 1, 1) := by decide +kernel
theorem dL_law_716 : decode cL_law 716 = .ok (.iadd, 1) := by decide +kernel
theorem dL_law_717 : decode cL_law 717 = .ok (.iaload, 1) := by decide +kernel
theorem dL_law_718 : decode cL_law 718 = .ok (.invokevirtual 83, 3) := by decide +kernel
theorem dL_law_721 : decode cL_law 721 = .ok (.aload_n 2, 1) := by decide +kernel
theorem dL_law_722 : decode cL_law 722 = .ok (.aload_n 0, 1) := by decide +kernel
theorem dL_law_723 : decode cL_law 723 = .ok (.iload_n 3, 1) := by decide +kernel
theorem dL_law_724 : decode cL_law 724 = .ok (.iconst 1, 1) := by decide +kernel
theorem dL_law_725 : decode cL_law 725 = .ok (.iadd, 1) := by decide +kernel
theorem dL_law_726 : decode cL_law 726 = .ok (.iaload, 1) := by decide +kernel
theorem dL_law_727 : decode cL_law 727 = .ok (.invokevirtual 86, 3) := by decide +kernel
theorem dL_law_730 : decode cL_law 730 = .ok (.if_icmp .eq 117, 3) := by decide +kernel
theorem dL_law_733 : decode cL_law 733 = .ok (.iconst 0, 1) := by decide +kernel
theorem dL_law_734 : decode cL_law 734 = .ok (.ireturn, 1) := by decide +kernel
theorem dL_law_735 : decode cL_law 735 = .ok (.aload_n 1, 1) := by decide +kernel
theorem dL_law_736 : decode cL_law 736 = .ok (.invokevirtual 87, 3) := by decide +kernel
theorem dL_law_739 : decode cL_law 739 = .ok (.aload_n 2, 1) := by decide +kernel
theorem dL_law_740 : decode cL_law 740 = .ok (.invokevirtual 90, 3) := by decide +kernel
theorem dL_law_743 : decode cL_law 743 = .ok (.if_icmp .eq 104, 3) := by decide +kernel
theorem dL_law_746 : decode cL_law 746 = .ok (.iconst 0, 1) := by decide +kernel
theorem dL_law_747 : decode cL_law 747 = .ok (.ireturn, 1) := by decide +kernel
theorem dL_law_748 : decode cL_law 748 = .ok (.aload_n 1, 1) := by decide +kernel
theorem dL_law_749 : decode cL_law 749 = .ok (.invokevirtual 91, 3) := by decide +kernel
theorem dL_law_752 : decode cL_law 752 = .ok (.aload_n 2, 1) := by decide +kernel
theorem dL_law_753 : decode cL_law 753 = .ok (.invokevirtual 94, 3) := by decide +kernel
theorem dL_law_756 : decode cL_law 756 = .ok (.if_icmp .eq 91, 3) := by decide +kernel
theorem dL_law_759 : decode cL_law 759 = .ok (.iconst 0, 1) := by decide +kernel
theorem dL_law_760 : decode cL_law 760 = .ok (.ireturn, 1) := by decide +kernel
theorem dL_law_761 : decode cL_law 761 = .ok (.aload_n 1, 1) := by decide +kernel
theorem dL_law_762 : decode cL_law 762 = .ok (.invokevirtual 95, 3) := by decide +kernel
theorem dL_law_765 : decode cL_law 765 = .ok (.aload_n 2, 1) := by decide +kernel
theorem dL_law_766 : decode cL_law 766 = .ok (.invokevirtual 98, 3) := by decide +kernel
theorem dL_law_769 : decode cL_law 769 = .ok (.if_icmp .eq 78, 3) := by decide +kernel
theorem dL_law_772 : decode cL_law 772 = .ok (.iconst 0, 1) := by decide +kernel
theorem dL_law_773 : decode cL_law 773 = .ok (.ireturn, 1) := by decide +kernel
theorem dL_law_774 : decode cL_law 774 = .ok (.aload_n 1, 1) := by decide +kernel
theorem dL_law_775 : decode cL_law 775 = .ok (.invokevirtual 99, 3) := by decide +kernel
theorem dL_law_778 : decode cL_law 778 = .ok (.aload_n 2, 1) := by decide +kernel
theorem dL_law_779 : decode cL_law 779 = .ok (.invokevirtual 102, 3) := by decide +kernel
theorem dL_law_782 : decode cL_law 782 = .ok (.if_icmp .eq 65, 3) := by decide +kernel
theorem dL_law_785 : decode cL_law 785 = .ok (.iconst 0, 1) := by decide +kernel
theorem dL_law_786 : decode cL_law 786 = .ok (.ireturn, 1) := by decide +kernel
theorem dL_law_787 : decode cL_law 787 = .ok (.aload_n 1, 1) := by decide +kernel
theorem dL_law_788 : decode cL_law 788 = .ok (.aload_n 0, 1) := by decide +kernel
theorem dL_law_789 : decode cL_law 789 = .ok (.iload_n 3, 1) := by decide +kernel
theorem dL_law_790 : decode cL_law 790 = .ok (.iconst 1, 1) := by decide +kernel
theorem dL_law_791 : decode cL_law 791 = .ok (.iadd, 1) := by decide +kernel
theorem dL_law_792 : decode cL_law 792 = .ok (.iaload, 1) := by decide +kernel
theorem dL_law_793 : decode cL_law 793 = .ok (.invokevirtual 103, 3) := by decide +kernel
theorem dL_law_796 : decode cL_law 796 = .ok (.aload_n 2, 1) := by decide +kernel
theorem dL_law_797 : decode cL_law 797 = .ok (.aload_n 0, 1) := by decide +kernel
theorem dL_law_798 : decode cL_law 798 = .ok (.iload_n 3, 1) := by decide +kernel
theorem dL_law_799 : decode cL_law 799 = .ok (.iconst 1, 1) := by decide +kernel
theorem dL_law_800 : decode cL_law 800 = .ok (.iadd, 1) := by decide +kernel
theorem dL_law_801 : decode cL_law 801 = .ok (.iaload, 1) := by decide +kernel
theorem dL_law_802 : decode cL_law 802 = .ok (.invokevirtual 106, 3) := by decide +kernel
theorem dL_law_805 : decode cL_law 805 = .ok (.if_icmp .eq 42, 3) := by decide +kernel
theorem dL_law_808 : decode cL_law 808 = .ok (.iconst 0, 1) := by decide +kernel
theorem dL_law_809 : decode cL_law 809 = .ok (.ireturn, 1) := by decide +kernel
theorem dL_law_810 : decode cL_law 810 = .ok (.aload_n 1, 1) := by decide +kernel
theorem dL_law_811 : decode cL_law 811 = .ok (.aload_n 0, 1) := by decide +kernel
theorem dL_law_812 : decode cL_law 812 = .ok (.iload_n 3, 1) := by decide +kernel
theorem dL_law_813 : decode cL_law 813 = .ok (.iconst 1, 1) := by decide +kernel
theorem dL_law_814 : decode cL_law 814 = .ok (.iadd, 1) := by decide +kernel
theorem dL_law_815 : decode cL_law 815 = .ok (.iaload, 1) := by decide +kernel
theorem dL_law_816 : decode cL_law 816 = .ok (.invokevirtual 107, 3) := by decide +kernel
theorem dL_law_819 : decode cL_law 819 = .ok (.aload_n 2, 1) := by decide +kernel
theorem dL_law_820 : decode cL_law 820 = .ok (.aload_n 0, 1) := by decide +kernel
theorem dL_law_821 : decode cL_law 821 = .ok (.iload_n 3, 1) := by decide +kernel
theorem dL_law_822 : decode cL_law 822 = .ok (.iconst 1, 1) := by decide +kernel
theorem dL_law_823 : decode cL_law 823 = .ok (.iadd, 1) := by decide +kernel
theorem dL_law_824 : decode cL_law 824 = .ok (.iaload, 1) := by decide +kernel
theorem dL_law_825 : decode cL_law 825 = .ok (.invokevirtual 110, 3) := by decide +kernel
theorem dL_law_828 : decode cL_law 828 = .ok (.if_icmp .eq 19, 3) := by decide +kernel
theorem dL_law_831 : decode cL_law 831 = .ok (.iconst 0, 1) := by decide +kernel
theorem dL_law_832 : decode cL_law 832 = .ok (.ireturn, 1) := by decide +kernel
theorem dL_law_833 : decode cL_law 833 = .ok (.aload_n 1, 1) := by decide +kernel
theorem dL_law_834 : decode cL_law 834 = .ok (.invokevirtual 111, 3) := by decide +kernel
theorem dL_law_837 : decode cL_law 837 = .ok (.aload_n 2, 1) := by decide +kernel
theorem dL_law_838 : decode cL_law 838 = .ok (.invokevirtual 115, 3) := by decide +kernel
theorem dL_law_841 : decode cL_law 841 = .ok (.lcmp, 1) := by decide +kernel
theorem dL_law_842 : decode cL_law 842 = .ok (.ifCond .eq 5, 3) := by decide +kernel
theorem dL_law_845 : decode cL_law 845 = .ok (.iconst 0, 1) := by decide +kernel
theorem dL_law_846 : decode cL_law 846 = .ok (.ireturn, 1) := by decide +kernel
theorem dL_law_847 : decode cL_law 847 = .ok (.iinc 3 6, 3) := by decide +kernel
theorem dL_law_850 : decode cL_law 850 = .ok (.goto (-832), 3) := by decide +kernel
theorem dL_law_853 : decode cL_law 853 = .ok (.iconst 1, 1) := by decide +kernel
theorem dL_law_854 : decode cL_law 854 = .ok (.ireturn, 1) := by decide +kernel
end
section
/-! ===== an abstract store, and how the heap holds it ===== -/
abbrev ax_V : Type := Int32 ⊕ (Int64 ⊕ Option Nat)
abbrev av_i (x : Int32) : ax_V := .inl x
abbrev av_l (x : Int64) : ax_V := .inr (.inl x)
abbrev av_r (r : Option Nat) : ax_V := .inr (.inr r)
def ax_cv (ρ : Nat → Nat) : ax_V → Value
  | .inl x => .int x
  | .inr (.inl x) => .long x
  | .inr (.inr r) => va_rf (r.map ρ)
/-- shapes (kind, length) by address; ints; references -/
abbrev ax_S : Type := List (Nat × Nat) × (Nat → Nat → Int32) × (Nat → Nat → Option Nat)
def ax_ty (t k : Nat) : FieldType := match t with
  | 0 => tyX0 k
  | 1 => tyX1 k
  | 2 => tyX3 k
  | 3 => tyX5 k
  | 4 => tyX6 k
  | 5 => tyX8 k
  | 6 => tyX9 k
  | 7 => tyX10 k
  | 8 => .byte
  | 9 => .int
  | 10 => .boolean
  | 11 => .object RX1
  | 12 => .object RX3
  | _ => .object RX5
def ax_isI (t k : Nat) : Bool := match ax_ty t k with
  | .int => true
  | .boolean => true
  | .byte => true
  | _ => false
def ax_sv (σ : ax_S) (t a k : Nat) : ax_V := if ax_isI t k = true then av_i (σ.2.1 a k) else av_r (σ.2.2 a k)
/-- the context: classes and slots; array classes; addresses; the static cells; the first own address -/
abbrev ax_X : Type := va_G × (Nat → ClassId) × (Nat → Nat) × (Nat → Cell) × Nat
abbrev ax_ρ (X : ax_X) : Nat → Nat := X.2.2.1
abbrev ax_c (X : ax_X) : Nat → Cell := X.2.2.2.1
abbrev ax_b (X : ax_X) : Nat := X.2.2.2.2
def ax_A (X : ax_X) : Nat → Prop := fun q => ax_b X ≤ q
def ax_ok (X : ax_X) : Prop := (∀ a : Nat, 9 ≤ a → ax_ρ X a = ax_b X + (a - 9)) ∧ ∀ a : Nat, a < 9 → ax_ρ X a < ax_b X
def ax_at (X : ax_X) (σ : ax_S) (H : Heap) (a t n : Nat) : Prop :=
  if a < 8 then t = (if a = 7 then 8 else 9) ∧ H[ax_ρ X a]? = some (ax_c X a) ∧ (n ≤ (ax_c X a).slots.size ∧ (ax_c X a).slots.size.toInt32 = Int32.ofNat n) ∧ (ax_c X a).vm ≠ .unknown ∧ ∀ j : Nat, j < n → (ax_c X a).slots[j]? = some (ax_cv (ax_ρ X) (ax_sv σ t a j))
  else if a = 8 then t = 99
  else if t < 8 then ∃ r : vw_C, vwCl[t]? = some r ∧ n = r.2.2 ∧ t_OB (ax_ρ X a) (X.1.1 t) r.2.2 (X.1.2 t) H (fun k => ax_cv (ax_ρ X) (ax_sv σ t a k))
  else t < 14 ∧ H[ax_ρ X a]? = some (arrV (X.2.1 t) n (fun j => ax_cv (ax_ρ X) (ax_sv σ t a j)))
def ax_H (X : ax_X) (σ : ax_S) (H : Heap) : Prop := 9 ≤ σ.1.length ∧ H.size = ax_b X + (σ.1.length - 9) ∧ ∀ a t n : Nat, σ.1[a]? = some (t, n) → ax_at X σ H a t n
def ax_isN : Cond → Bool
  | .methodLinkNest .. => true
  | .fieldLinkNest .. => true
  | _ => false
def ax_NW : List Cond := lw_tbl.filter ax_isN
def ax_WS : List Cond := lw_tbl.filter goodWord
def ax_K (X : ax_X) (s : State) : Prop := va_K X.1 vwCl [] s ∧ (∀ t : Nat, 8 ≤ t → t < 14 → ArrOfT s (X.2.1 t) (ax_ty t 0) ∧ va_RA s (X.2.1 t) (ax_ty t 0)) ∧ (∀ a : Nat, a < 8 → s.isArrayOf (ax_c X a) (if a = 7 then .byte else .int)) ∧ (∀ w ∈ ax_NW, va_Nw w s) ∧ vk_R RX6 68 "sgtilkbn" (ax_ρ X 8) s ∧ va_AO RX1 s ∧ va_AO RX3 s ∧ va_AO RX5 s
theorem ax_K.moved {X : ax_X} {s U : State} (hW : s.WarmedH U.vm) (h : ax_K X s) : ax_K X U := by
  obtain ⟨h1, h2, h3, h4, h5, h6, h7, h8⟩ := h
  refine ⟨va_K.moved hW.alike h1, fun t a b => ⟨arrOfT_moved hW.alike (h2 t a b).1, (h2 t a b).2.moved hW.alike⟩, fun a ha => State.isArrayOf_alike hW.alike (h3 a ha), fun w hw => ?_, h5.warm hW, va_AO.moved hW.alike h6, va_AO.moved hW.alike h7, va_AO.moved hW.alike h8⟩
  have hn := (List.mem_filter.mp hw).2
  have hz := h4 w hw
  cases w with
  | methodLinkNest a i x h => exact va_Nw.warmM hW hz
  | fieldLinkNest a i b n d h => exact va_Nw.warmF hW hz
  | _ => cases hn
def ax_kn : Nat → String
  | 0 => "INPUTS"
  | 1 => "PARAMETERS"
  | 2 => "NUMBERS"
  | 3 => "LOWEST"
  | 4 => "HIGHEST"
  | _ => "AT_FIRST"
def ax_G (X : ax_X) (U : State) (H : Heap) : Prop := (∀ i : Nat, i < 6 → va_Z RX2 (ax_kn i) "[I" (.ref (ax_ρ X i)) (ax_A X) U H) ∧ va_Z "java/lang/String" "COMPACT_STRINGS" "Z" (.int 1) (ax_A X) U H ∧ va_O "java/lang/String" (ax_ρ X 8) (ax_A X) U H ∧ va_OF "java/lang/String" "coder" "B" (.int 0) (ax_ρ X 8) (ax_A X) U H ∧ va_OF "java/lang/String" "value" "[B" (.ref (ax_ρ X 7)) (ax_ρ X 8) (ax_A X) U H
theorem ax_G.moved {X : ax_X} {u U : State} {H : Heap} (hvm : u.vm.Alike U.vm) (h : ax_G X u H) : ax_G X U H := ⟨fun i hi => (h.1 i hi).moved hvm, va_Z.moved hvm h.2.1, va_O.moved hvm h.2.2.1, va_OF.moved hvm h.2.2.2.1, va_OF.moved hvm h.2.2.2.2⟩
theorem ax_G.kept {X : ax_X} {U : State} {H H1 : Heap} (h : ax_G X U H) (hq : ∀ a : Nat, a < H.size → ¬ ax_A X a → H1[a]? = H[a]?) : ax_G X U H1 := ⟨fun i hi => (h.1 i hi).kept hq, h.2.1.kept hq, h.2.2.1.kept hq, h.2.2.2.1.kept hq, h.2.2.2.2.kept hq⟩
def ax_L (X : ax_X) (nL : Nat) (ls : Array Slot) (L : List (Option ax_V)) : Prop := ls.size = nL ∧ lv_wf ls ∧ ∀ (i : Nat) (v : ax_V), L[i]? = some (some v) → ls[i]? = some (.val (ax_cv (ax_ρ X) v))
def ax_lv (ρ : Nat → Nat) (L : List (Option ax_V)) : List (Nat × Value) := (List.range L.length).filterMap (fun j => match L[j]? with
  | some (some v) => some (j, ax_cv ρ v)
  | _ => none)
theorem ax_lv_mem {ρ : Nat → Nat} {L : List (Option ax_V)} {q : Nat × Value} : q ∈ ax_lv ρ L ↔ ∃ v, L[q.1]? = some (some v) ∧ q.2 = ax_cv ρ v := by
  unfold ax_lv
  rw [List.mem_filterMap]
  constructor
  · rintro ⟨j, -, h⟩
    split at h
    · rename_i v hv
      cases h
      exact ⟨v, hv, rfl⟩
    · cases h
  · rintro ⟨v, hv, e⟩
    refine ⟨q.1, List.mem_range.mpr (List.getElem?_eq_some_iff.mp hv).1, ?_⟩
    rw [hv]
    obtain ⟨a, b⟩ := q
    cases e
    rfl
theorem ax_lv_has {X : ax_X} {nL : Nat} {ls : Array Slot} {L : List (Option ax_V)} (h : ax_L X nL ls L) : lv_has ls nL (ax_lv (ax_ρ X) L) := by
  refine ⟨h.1, h.2.1, fun q hq => ?_⟩
  obtain ⟨v, hv, e⟩ := ax_lv_mem.mp hq
  rw [e]
  exact h.2.2 _ _ hv
theorem ax_cat (ρ : Nat → Nat) (v : ax_V) : (ax_cv ρ v).category = match v with
    | .inr (.inl _) => 2
    | _ => 1 := by
  rcases v with x | x | r
  · rfl
  · rfl
  · cases r <;> rfl
/-- the place before isn't a long's -/
def ax_st (L : List (Option ax_V)) : Nat → Bool
  | 0 => true
  | j + 1 => match L[j]? with
    | some (some (.inr (.inl _))) => false
    | _ => true
theorem ax_L.set1 {X : ax_X} {nL i : Nat} {ls : Array Slot} {L : List (Option ax_V)} {v : ax_V} (hst : ax_st L i = true) (h : lv_has ls nL ((i, ax_cv (ax_ρ X) v) :: (ax_lv (ax_ρ X) L).filter (fun q => !(q.1 == i) && !(q.1 + 1 == i && q.2.category == 2)))) : ax_L X nL ls (L.set i (some v)) := by
  refine ⟨h.1, h.2.1, fun j w hw => ?_⟩
  by_cases hj : j = i
  · subst hj
    have hl : j < L.length := by
      have := (List.getElem?_eq_some_iff.mp hw).1
      simpa using this
    rw [List.getElem?_set_self hl] at hw
    cases hw
    exact h.2.2 (j, _) List.mem_cons_self
  · rw [List.getElem?_set_ne (fun q => hj q.symm)] at hw
    refine h.2.2 (j, ax_cv (ax_ρ X) w) (List.mem_cons_of_mem _ (List.mem_filter.mpr ⟨ax_lv_mem.mpr ⟨w, hw, rfl⟩, ?_⟩))
    have h1 : ((j == i) : Bool) = false := by simp [hj]
    show (!(j == i) && !(j + 1 == i && (ax_cv (ax_ρ X) w).category == 2)) = true
    rw [h1]
    by_cases hji : j + 1 = i
    · subst hji
      have hc : (ax_cv (ax_ρ X) w).category = 1 := by
        rw [ax_cat]
        simp only [ax_st, hw] at hst
        rcases w with x | x | r
        · rfl
        · simp at hst
        · rfl
      rw [hc]
      simp
    · have h2 : ((j + 1 == i) : Bool) = false := by simp [hji]
      rw [h2]
      rfl
theorem ax_L.set2 {X : ax_X} {nL i : Nat} {ls : Array Slot} {L : List (Option ax_V)} {v : ax_V} (hst : ax_st L i = true) (h : lv_has ls nL ((i, ax_cv (ax_ρ X) v) :: (ax_lv (ax_ρ X) L).filter (fun q => !(q.1 == i) && (!(q.1 == i + 1) && !(q.1 + 1 == i && q.2.category == 2))))) : ax_L X nL ls ((L.set i (some v)).set (i + 1) none) := by
  refine ⟨h.1, h.2.1, fun j w hw => ?_⟩
  have hj1 : j ≠ i + 1 := by
    intro e
    subst e
    have hl : i + 1 < ((L.set i (some v)).set (i + 1) none).length := (List.getElem?_eq_some_iff.mp hw).1
    rw [List.getElem?_set_self (by simpa using hl)] at hw
    cases hw
  rw [List.getElem?_set_ne (fun q => hj1 q.symm)] at hw
  by_cases hj : j = i
  · subst hj
    have hl : j < L.length := by
      have := (List.getElem?_eq_some_iff.mp hw).1
      simpa using this
    rw [List.getElem?_set_self hl] at hw
    cases hw
    exact h.2.2 (j, _) List.mem_cons_self
  · rw [List.getElem?_set_ne (fun q => hj q.symm)] at hw
    refine h.2.2 (j, ax_cv (ax_ρ X) w) (List.mem_cons_of_mem _ (List.mem_filter.mpr ⟨ax_lv_mem.mpr ⟨w, hw, rfl⟩, ?_⟩))
    have h1 : ((j == i) : Bool) = false := by simp [hj]
    have h3 : ((j == i + 1) : Bool) = false := by simp [hj1]
    show (!(j == i) && (!(j == i + 1) && !(j + 1 == i && (ax_cv (ax_ρ X) w).category == 2))) = true
    rw [h1, h3]
    by_cases hji : j + 1 = i
    · subst hji
      have hc : (ax_cv (ax_ρ X) w).category = 1 := by
        rw [ax_cat]
        simp only [ax_st, hw] at hst
        rcases w with x | x | r
        · rfl
        · simp at hst
        · rfl
      rw [hc]
      simp
    · have h2 : ((j + 1 == i) : Bool) = false := by simp [hji]
      rw [h2]
      rfl
/-- a method: its class, its code, what it returns, its locals, whether it is a constructor -/
abbrev ax_M : Type := String × ByteArray × Option FieldType × Nat × Bool
def ax_C (X : ax_X) (M : ax_M) (d : Nat) (p : Program) (R : Room) (s : State) (m : MethodId) (args : Array Value) (meth : Method) (c : Code) : Prop :=
  p.tables.exec = Jvm.exec ∧ c.code = M.2.1 ∧ c.maxLocals = M.2.2.2.1 ∧ s.vm.findClass M.1 = some m.cls ∧ (∀ w ∈ ax_WS, w.before args s = true) ∧ meth.sig.returnType = M.2.2.1 ∧ meth.locks = false ∧ (M.2.2.2.2 = true → meth.name = "<init>") ∧ d ≤ R.frames ∧ 64 * d ≤ R.locals ∧ ax_ok X ∧ ax_K X s ∧ ax_G X s s.heap
def ax_ri : Option FieldType → Instr
  | none => .return_
  | some .long => .lreturn
  | some (.object _) => .areturn
  | some (.array _) => .areturn
  | _ => .ireturn
def AW (M : ax_M) (d bc bs pc : Nat) (L : List (Option ax_V)) (st : List ax_V) (σ : ax_S) (z : Option ax_V × ax_S) : Prop :=
  ∀ (X : ax_X) (p : Program) (l : Launch) (e : Env) (R : Room) (s : State) (m : MethodId) (args : Array Value) (below : List Frame) (meth : Method) (c : Code) (H : Heap) (locs : List Loc) (cells slots : Nat) (Q : State → Prop) (ls : Array Slot),
    ax_C X M d p R s m args meth c → cells + bc ≤ R.cells → slots + bs ≤ R.slots → ax_H X σ H → va_S (ax_A X) s.heap H locs → ax_L X M.2.2.2.1 ls L →
    (∀ (pc' : Nat) (ls' : Array Slot) (H' : Heap) (locs' : List Loc), ax_H X z.2 H' → va_S (ax_A X) s.heap H' locs' → decode M.2.1 pc' = .ok (ax_ri M.2.2.1, 1) → W p l e R s m args below meth c H' locs' R.cells R.slots Q (F0 m pc' ls' (z.1.toList.map (ax_cv (ax_ρ X))))) →
    W p l e R s m args below meth c H locs cells slots Q (F0 m pc ls (st.map (ax_cv (ax_ρ X))))
end
section
theorem ax_tm0 : ∀ w ∈ k2_sels lw_privs, w ∈ lw_tbl := fun w h => List.mem_append_left _ h
theorem ax_tm1 : ∀ w ∈ tables_1_1, w ∈ lw_tbl := fun w h => List.mem_append_right _ (List.mem_append_left _ h)
theorem ax_tm2 : ∀ w ∈ tables_1_2, w ∈ lw_tbl := fun w h => List.mem_append_right _ (List.mem_append_right _ (List.mem_append_left _ h))
theorem ax_tm3 : ∀ w ∈ tables_1_3, w ∈ lw_tbl := fun w h => List.mem_append_right _ (List.mem_append_right _ (List.mem_append_right _ (List.mem_append_left _ h)))
theorem ax_tm4 : ∀ w ∈ tables_1_4, w ∈ lw_tbl := fun w h => List.mem_append_right _ (List.mem_append_right _ (List.mem_append_right _ (List.mem_append_right _ (List.mem_append_left _ h))))
theorem ax_tm5 : ∀ w ∈ tables_1_5, w ∈ lw_tbl := fun w h => List.mem_append_right _ (List.mem_append_right _ (List.mem_append_right _ (List.mem_append_right _ (List.mem_append_right _ h))))
theorem ax_wl {T ws : List Cond} (hT : ∀ w ∈ T, w ∈ lw_tbl) {is : List Nat} (h : ws.all goodWord = true ∧ is.map (fun i => T[i]?) = ws.map some) {w : Cond} (j : Nat) (hj : ws[j]? = some w) : w ∈ ax_WS := by
  have hm : w ∈ ws := List.mem_of_getElem? hj
  have h1 := List.all_eq_true.mp h.1 w hm
  have h2 : some w ∈ is.map (fun i => T[i]?) := by rw [h.2]; exact List.mem_map.mpr ⟨w, hm, rfl⟩
  obtain ⟨i, -, hi⟩ := List.mem_map.mp h2
  exact List.mem_filter.mpr ⟨hT _ (List.mem_of_getElem? hi), h1⟩
theorem ax_nl {T ws : List Cond} (hT : ∀ w ∈ T, w ∈ lw_tbl) {is : List Nat} (h : ws.all ax_isN = true ∧ is.map (fun i => T[i]?) = ws.map some) {w : Cond} (j : Nat) (hj : ws[j]? = some w) : w ∈ ax_NW := by
  have hm : w ∈ ws := List.mem_of_getElem? hj
  have h1 := List.all_eq_true.mp h.1 w hm
  have h2 : some w ∈ is.map (fun i => T[i]?) := by rw [h.2]; exact List.mem_map.mpr ⟨w, hm, rfl⟩
  obtain ⟨i, -, hi⟩ := List.mem_map.mp h2
  exact List.mem_filter.mpr ⟨hT _ (List.mem_of_getElem? hi), h1⟩
def wdl_0 : List Cond := [Cond.selects RX1 yX1_arrange yX1_arrange, Cond.selects RX1 yX1_firstReady yX1_firstReady, Cond.selects RX1 yX1_depthBehindInputs yX1_depthBehindInputs, Cond.selects RX0 yX0_remove yX0_remove, Cond.selects RX9 yX9_ask yX9_ask, Cond.selects RX0 yX0_touch yX0_touch, Cond.selects RX0 yX0_dropOldest yX0_dropOldest, Cond.selects RX6 yX6_expression yX6_expression, Cond.selects RX6 yX6_kindHere yX6_kindHere, Cond.selects RX6 yX6_expect yX6_expect, Cond.selects RX6 yX6_readNumber yX6_readNumber, Cond.selects RX6 yX6_readDigits yX6_readDigits, Cond.selects RX6 yX6_newNode yX6_newNode, Cond.selects RX6 yX6_nextExpression yX6_nextExpression, Cond.selects RX6 yX6_fill yX6_fill, Cond.selects RX9 yX9_mixNode yX9_mixNode, Cond.selects RX10 yX10_adds yX10_adds, Cond.selects RX10 yX10_isInput yX10_isInput, Cond.selects RX10 yX10_isNode yX10_isNode, Cond.selects RX10 yX10_kind yX10_kind, Cond.selects RX10 yX10_dependents yX10_dependents, Cond.selects RX10 yX10_voids yX10_voids, Cond.selects RX10 yX10_drops yX10_drops, Cond.selects RX10 yX10_isParameter yX10_isParameter, Cond.selects RX10 yX10_nodeTells yX10_nodeTells, Cond.selects RX10 yX10_placeOf yX10_placeOf, Cond.selects RX10 yX10_isReady yX10_isReady, Cond.selects RX10 yX10_depthOf yX10_depthOf, Cond.selects RX10 yX10_isPicture yX10_isPicture, Cond.selects RX10 yX10_picture yX10_picture]
theorem wdl_0_ok : wdl_0.all goodWord = true ∧ [0, 1, 2, 3, 4, 5, 6, 7, 8, 9, 10, 11, 12, 13, 14, 15, 16, 17, 18, 19, 20, 21, 22, 23, 24, 25, 26, 27, 28, 29].map (fun i => (k2_sels lw_privs)[i]?) = wdl_0.map some := by decide +kernel
theorem wd_0 : Cond.selects RX1 yX1_arrange yX1_arrange ∈ ax_WS := ax_wl ax_tm0 wdl_0_ok 0 rfl
theorem wd_1 : Cond.selects RX1 yX1_firstReady yX1_firstReady ∈ ax_WS := ax_wl ax_tm0 wdl_0_ok 1 rfl
theorem wd_2 : Cond.selects RX1 yX1_depthBehindInputs yX1_depthBehindInputs ∈ ax_WS := ax_wl ax_tm0 wdl_0_ok 2 rfl
theorem wd_3 : Cond.selects RX0 yX0_remove yX0_remove ∈ ax_WS := ax_wl ax_tm0 wdl_0_ok 3 rfl
theorem wd_4 : Cond.selects RX9 yX9_ask yX9_ask ∈ ax_WS := ax_wl ax_tm0 wdl_0_ok 4 rfl
theorem wd_5 : Cond.selects RX0 yX0_touch yX0_touch ∈ ax_WS := ax_wl ax_tm0 wdl_0_ok 5 rfl
theorem wd_6 : Cond.selects RX0 yX0_dropOldest yX0_dropOldest ∈ ax_WS := ax_wl ax_tm0 wdl_0_ok 6 rfl
theorem wd_7 : Cond.selects RX6 yX6_expression yX6_expression ∈ ax_WS := ax_wl ax_tm0 wdl_0_ok 7 rfl
theorem wd_8 : Cond.selects RX6 yX6_kindHere yX6_kindHere ∈ ax_WS := ax_wl ax_tm0 wdl_0_ok 8 rfl
theorem wd_9 : Cond.selects RX6 yX6_expect yX6_expect ∈ ax_WS := ax_wl ax_tm0 wdl_0_ok 9 rfl
theorem wd_10 : Cond.selects RX6 yX6_readNumber yX6_readNumber ∈ ax_WS := ax_wl ax_tm0 wdl_0_ok 10 rfl
theorem wd_11 : Cond.selects RX6 yX6_readDigits yX6_readDigits ∈ ax_WS := ax_wl ax_tm0 wdl_0_ok 11 rfl
theorem wd_12 : Cond.selects RX6 yX6_newNode yX6_newNode ∈ ax_WS := ax_wl ax_tm0 wdl_0_ok 12 rfl
theorem wd_13 : Cond.selects RX6 yX6_nextExpression yX6_nextExpression ∈ ax_WS := ax_wl ax_tm0 wdl_0_ok 13 rfl
theorem wd_14 : Cond.selects RX6 yX6_fill yX6_fill ∈ ax_WS := ax_wl ax_tm0 wdl_0_ok 14 rfl
theorem wd_15 : Cond.selects RX9 yX9_mixNode yX9_mixNode ∈ ax_WS := ax_wl ax_tm0 wdl_0_ok 15 rfl
theorem wd_16 : Cond.selects RX10 yX10_adds yX10_adds ∈ ax_WS := ax_wl ax_tm0 wdl_0_ok 16 rfl
theorem wd_17 : Cond.selects RX10 yX10_isInput yX10_isInput ∈ ax_WS := ax_wl ax_tm0 wdl_0_ok 17 rfl
theorem wd_18 : Cond.selects RX10 yX10_isNode yX10_isNode ∈ ax_WS := ax_wl ax_tm0 wdl_0_ok 18 rfl
theorem wd_19 : Cond.selects RX10 yX10_kind yX10_kind ∈ ax_WS := ax_wl ax_tm0 wdl_0_ok 19 rfl
theorem wd_20 : Cond.selects RX10 yX10_dependents yX10_dependents ∈ ax_WS := ax_wl ax_tm0 wdl_0_ok 20 rfl
theorem wd_21 : Cond.selects RX10 yX10_voids yX10_voids ∈ ax_WS := ax_wl ax_tm0 wdl_0_ok 21 rfl
theorem wd_22 : Cond.selects RX10 yX10_drops yX10_drops ∈ ax_WS := ax_wl ax_tm0 wdl_0_ok 22 rfl
theorem wd_23 : Cond.selects RX10 yX10_isParameter yX10_isParameter ∈ ax_WS := ax_wl ax_tm0 wdl_0_ok 23 rfl
theorem wd_24 : Cond.selects RX10 yX10_nodeTells yX10_nodeTells ∈ ax_WS := ax_wl ax_tm0 wdl_0_ok 24 rfl
theorem wd_25 : Cond.selects RX10 yX10_placeOf yX10_placeOf ∈ ax_WS := ax_wl ax_tm0 wdl_0_ok 25 rfl
theorem wd_26 : Cond.selects RX10 yX10_isReady yX10_isReady ∈ ax_WS := ax_wl ax_tm0 wdl_0_ok 26 rfl
theorem wd_27 : Cond.selects RX10 yX10_depthOf yX10_depthOf ∈ ax_WS := ax_wl ax_tm0 wdl_0_ok 27 rfl
theorem wd_28 : Cond.selects RX10 yX10_isPicture yX10_isPicture ∈ ax_WS := ax_wl ax_tm0 wdl_0_ok 28 rfl
theorem wd_29 : Cond.selects RX10 yX10_picture yX10_picture ∈ ax_WS := ax_wl ax_tm0 wdl_0_ok 29 rfl
def wdl_1 : List Cond := [Cond.selects RX10 yX10_asks yX10_asks, Cond.selects RX10 yX10_find yX10_find, Cond.selects RX10 yX10_uses yX10_uses, Cond.selects RX10 yX10_isInRange yX10_isInRange, Cond.selects RX10 yX10_makes yX10_makes, Cond.selects RX10 yX10_makesRoom yX10_makesRoom, Cond.selects RX10 yX10_oldest yX10_oldest, Cond.selects RX10 yX10_made yX10_made, Cond.selects RX10 yX10_seen yX10_seen, Cond.selects RX10 yX10_blurred yX10_blurred, Cond.selects RX10 yX10_sums yX10_sums, Cond.selects RX10 yX10_countOf yX10_countOf, Cond.selects RX10 yX10_isText yX10_isText, Cond.selects RX10 yX10_begins yX10_begins, Cond.selects RX10 yX10_kindHere yX10_kindHere, Cond.selects RX10 yX10_here yX10_here, Cond.selects RX10 yX10_takes yX10_takes, Cond.selects RX10 yX10_ends yX10_ends, Cond.selects RX10 yX10_number yX10_number, Cond.selects RX10 yX10_isDigit yX10_isDigit, Cond.selects RX10 yX10_tells yX10_tells]
theorem wdl_1_ok : wdl_1.all goodWord = true ∧ [30, 31, 32, 33, 34, 35, 36, 37, 38, 39, 40, 41, 42, 43, 44, 45, 46, 47, 48, 49, 50].map (fun i => (k2_sels lw_privs)[i]?) = wdl_1.map some := by decide +kernel
theorem wd_30 : Cond.selects RX10 yX10_asks yX10_asks ∈ ax_WS := ax_wl ax_tm0 wdl_1_ok 0 rfl
theorem wd_31 : Cond.selects RX10 yX10_find yX10_find ∈ ax_WS := ax_wl ax_tm0 wdl_1_ok 1 rfl
theorem wd_32 : Cond.selects RX10 yX10_uses yX10_uses ∈ ax_WS := ax_wl ax_tm0 wdl_1_ok 2 rfl
theorem wd_33 : Cond.selects RX10 yX10_isInRange yX10_isInRange ∈ ax_WS := ax_wl ax_tm0 wdl_1_ok 3 rfl
theorem wd_34 : Cond.selects RX10 yX10_makes yX10_makes ∈ ax_WS := ax_wl ax_tm0 wdl_1_ok 4 rfl
theorem wd_35 : Cond.selects RX10 yX10_makesRoom yX10_makesRoom ∈ ax_WS := ax_wl ax_tm0 wdl_1_ok 5 rfl
theorem wd_36 : Cond.selects RX10 yX10_oldest yX10_oldest ∈ ax_WS := ax_wl ax_tm0 wdl_1_ok 6 rfl
theorem wd_37 : Cond.selects RX10 yX10_made yX10_made ∈ ax_WS := ax_wl ax_tm0 wdl_1_ok 7 rfl
theorem wd_38 : Cond.selects RX10 yX10_seen yX10_seen ∈ ax_WS := ax_wl ax_tm0 wdl_1_ok 8 rfl
theorem wd_39 : Cond.selects RX10 yX10_blurred yX10_blurred ∈ ax_WS := ax_wl ax_tm0 wdl_1_ok 9 rfl
theorem wd_40 : Cond.selects RX10 yX10_sums yX10_sums ∈ ax_WS := ax_wl ax_tm0 wdl_1_ok 10 rfl
theorem wd_41 : Cond.selects RX10 yX10_countOf yX10_countOf ∈ ax_WS := ax_wl ax_tm0 wdl_1_ok 11 rfl
theorem wd_42 : Cond.selects RX10 yX10_isText yX10_isText ∈ ax_WS := ax_wl ax_tm0 wdl_1_ok 12 rfl
theorem wd_43 : Cond.selects RX10 yX10_begins yX10_begins ∈ ax_WS := ax_wl ax_tm0 wdl_1_ok 13 rfl
theorem wd_44 : Cond.selects RX10 yX10_kindHere yX10_kindHere ∈ ax_WS := ax_wl ax_tm0 wdl_1_ok 14 rfl
theorem wd_45 : Cond.selects RX10 yX10_here yX10_here ∈ ax_WS := ax_wl ax_tm0 wdl_1_ok 15 rfl
theorem wd_46 : Cond.selects RX10 yX10_takes yX10_takes ∈ ax_WS := ax_wl ax_tm0 wdl_1_ok 16 rfl
theorem wd_47 : Cond.selects RX10 yX10_ends yX10_ends ∈ ax_WS := ax_wl ax_tm0 wdl_1_ok 17 rfl
theorem wd_48 : Cond.selects RX10 yX10_number yX10_number ∈ ax_WS := ax_wl ax_tm0 wdl_1_ok 18 rfl
theorem wd_49 : Cond.selects RX10 yX10_isDigit yX10_isDigit ∈ ax_WS := ax_wl ax_tm0 wdl_1_ok 19 rfl
theorem wd_50 : Cond.selects RX10 yX10_tells yX10_tells ∈ ax_WS := ax_wl ax_tm0 wdl_1_ok 20 rfl
def wdl_2 : List Cond := [Cond.initialized RX9, Cond.initialized RX1, Cond.initialized RX3, Cond.initialized RX0, Cond.initialized RX5, Cond.initialized RX6, Cond.initialized RX8, Cond.initialized RX10, Cond.initialized RX2, Cond.initialized RJ9, Cond.initialized RJ6, Cond.initialized RX4, Cond.initialized RJ10, Cond.initialized RX7, Cond.initialized RJ0, Cond.initialized RJ1, Cond.classLink RL 7 RX9, Cond.instantiable RX9 6, Cond.methodLink RL 9 yX9_init, Cond.instanceMethod yX9_init, Cond.code yX9_init cX9_init 2 none, Cond.methodLink RX9 3 Lib.objectInit, Cond.instanceMethod Lib.objectInit, Cond.code Lib.objectInit ⟨#[0xb1]⟩ 1 none, Cond.classLink RX9 9 RX1, Cond.instantiable RX1 5, Cond.methodLink RX9 11 yX1_init, Cond.instanceMethod yX1_init, Cond.code yX1_init cX1_init 2 none, Cond.methodLink RX1 3 Lib.objectInit]
theorem wdl_2_ok : wdl_2.all goodWord = true ∧ [1, 2, 3, 4, 5, 6, 7, 8, 9, 10, 11, 12, 13, 14, 15, 16, 20, 21, 22, 23, 24, 25, 26, 27, 28, 29, 30, 31, 32, 33].map (fun i => tables_1_1[i]?) = wdl_2.map some := by decide +kernel
theorem wd_52 : Cond.initialized RX9 ∈ ax_WS := ax_wl ax_tm1 wdl_2_ok 0 rfl
theorem wd_53 : Cond.initialized RX1 ∈ ax_WS := ax_wl ax_tm1 wdl_2_ok 1 rfl
theorem wd_54 : Cond.initialized RX3 ∈ ax_WS := ax_wl ax_tm1 wdl_2_ok 2 rfl
theorem wd_55 : Cond.initialized RX0 ∈ ax_WS := ax_wl ax_tm1 wdl_2_ok 3 rfl
theorem wd_56 : Cond.initialized RX5 ∈ ax_WS := ax_wl ax_tm1 wdl_2_ok 4 rfl
theorem wd_57 : Cond.initialized RX6 ∈ ax_WS := ax_wl ax_tm1 wdl_2_ok 5 rfl
theorem wd_58 : Cond.initialized RX8 ∈ ax_WS := ax_wl ax_tm1 wdl_2_ok 6 rfl
theorem wd_59 : Cond.initialized RX10 ∈ ax_WS := ax_wl ax_tm1 wdl_2_ok 7 rfl
theorem wd_60 : Cond.initialized RX2 ∈ ax_WS := ax_wl ax_tm1 wdl_2_ok 8 rfl
theorem wd_61 : Cond.initialized RJ9 ∈ ax_WS := ax_wl ax_tm1 wdl_2_ok 9 rfl
theorem wd_62 : Cond.initialized RJ6 ∈ ax_WS := ax_wl ax_tm1 wdl_2_ok 10 rfl
theorem wd_63 : Cond.initialized RX4 ∈ ax_WS := ax_wl ax_tm1 wdl_2_ok 11 rfl
theorem wd_64 : Cond.initialized RJ10 ∈ ax_WS := ax_wl ax_tm1 wdl_2_ok 12 rfl
theorem wd_65 : Cond.initialized RX7 ∈ ax_WS := ax_wl ax_tm1 wdl_2_ok 13 rfl
theorem wd_66 : Cond.initialized RJ0 ∈ ax_WS := ax_wl ax_tm1 wdl_2_ok 14 rfl
theorem wd_67 : Cond.initialized RJ1 ∈ ax_WS := ax_wl ax_tm1 wdl_2_ok 15 rfl
theorem wd_71 : Cond.classLink RL 7 RX9 ∈ ax_WS := ax_wl ax_tm1 wdl_2_ok 16 rfl
theorem wd_72 : Cond.instantiable RX9 6 ∈ ax_WS := ax_wl ax_tm1 wdl_2_ok 17 rfl
theorem wd_73 : Cond.methodLink RL 9 yX9_init ∈ ax_WS := ax_wl ax_tm1 wdl_2_ok 18 rfl
theorem wd_74 : Cond.instanceMethod yX9_init ∈ ax_WS := ax_wl ax_tm1 wdl_2_ok 19 rfl
theorem wd_75 : Cond.code yX9_init cX9_init 2 none ∈ ax_WS := ax_wl ax_tm1 wdl_2_ok 20 rfl
theorem wd_76 : Cond.methodLink RX9 3 Lib.objectInit ∈ ax_WS := ax_wl ax_tm1 wdl_2_ok 21 rfl
theorem wd_77 : Cond.instanceMethod Lib.objectInit ∈ ax_WS := ax_wl ax_tm1 wdl_2_ok 22 rfl
theorem wd_78 : Cond.code Lib.objectInit ⟨#[0xb1]⟩ 1 none ∈ ax_WS := ax_wl ax_tm1 wdl_2_ok 23 rfl
theorem wd_79 : Cond.classLink RX9 9 RX1 ∈ ax_WS := ax_wl ax_tm1 wdl_2_ok 24 rfl
theorem wd_80 : Cond.instantiable RX1 5 ∈ ax_WS := ax_wl ax_tm1 wdl_2_ok 25 rfl
theorem wd_81 : Cond.methodLink RX9 11 yX1_init ∈ ax_WS := ax_wl ax_tm1 wdl_2_ok 26 rfl
theorem wd_82 : Cond.instanceMethod yX1_init ∈ ax_WS := ax_wl ax_tm1 wdl_2_ok 27 rfl
theorem wd_83 : Cond.code yX1_init cX1_init 2 none ∈ ax_WS := ax_wl ax_tm1 wdl_2_ok 28 rfl
theorem wd_84 : Cond.methodLink RX1 3 Lib.objectInit ∈ ax_WS := ax_wl ax_tm1 wdl_2_ok 29 rfl
def wdl_3 : List Cond := [Cond.classLink RX1 9 RX3, Cond.instantiable RX3 5, Cond.instanceMethod yX3_init, Cond.code yX3_init cX3_init 1 none, Cond.methodLink RX3 3 Lib.objectInit, Cond.fieldLink RX4 9 RX3 "kind" "I", Cond.fieldLink RX3 18 RX3 "kind" "I", Cond.fieldLink RX1 40 RX3 "kind" "I", Cond.fieldLink RX9 97 RX3 "kind" "I", Cond.fieldLink RX3 22 RX3 "first" "I", Cond.fieldLink RX9 86 RX3 "first" "I", Cond.fieldLink RX3 25 RX3 "last" "I", Cond.fieldLink RX9 91 RX3 "last" "I", Cond.fieldLink RX3 9 RX3 "inputs" "[I", Cond.fieldLink RX6 98 RX3 "inputs" "[I", Cond.fieldLink RX1 63 RX3 "inputs" "[I", Cond.fieldLink RX9 130 RX3 "inputs" "[I", Cond.fieldLink RX3 15 RX3 "parameters" "[I", Cond.fieldLink RX4 15 RX3 "parameters" "[I", Cond.fieldLink RX9 109 RX3 "parameters" "[I", Cond.fieldLink RX6 103 RX3 "parameters" "[I", Cond.arrayClass .int, Cond.fieldLink RX1 11 RX1 "nodes" "[LGradeGraph$Node;", Cond.fieldLink RX9 82 RX1 "nodes" "[LGradeGraph$Node;", Cond.fieldLink RX1 28 RX1 "size" "I", Cond.fieldLink RX9 42 RX1 "size" "I", Cond.fieldLink RX1 17 RX1 "order" "[I", Cond.fieldLink RX1 21 RX1 "places" "[I", Cond.fieldLink RX9 124 RX1 "places" "[I", Cond.fieldLink RX1 24 RX1 "depths" "[I"]
theorem wdl_3_ok : wdl_3.all goodWord = true ∧ [34, 36, 38, 39, 40, 41, 42, 43, 44, 45, 46, 47, 48, 49, 50, 51, 52, 53, 54, 55, 56, 68, 69, 70, 71, 72, 73, 74, 75, 76].map (fun i => tables_1_1[i]?) = wdl_3.map some := by decide +kernel
theorem wd_85 : Cond.classLink RX1 9 RX3 ∈ ax_WS := ax_wl ax_tm1 wdl_3_ok 0 rfl
theorem wd_87 : Cond.instantiable RX3 5 ∈ ax_WS := ax_wl ax_tm1 wdl_3_ok 1 rfl
theorem wd_89 : Cond.instanceMethod yX3_init ∈ ax_WS := ax_wl ax_tm1 wdl_3_ok 2 rfl
theorem wd_90 : Cond.code yX3_init cX3_init 1 none ∈ ax_WS := ax_wl ax_tm1 wdl_3_ok 3 rfl
theorem wd_91 : Cond.methodLink RX3 3 Lib.objectInit ∈ ax_WS := ax_wl ax_tm1 wdl_3_ok 4 rfl
theorem wd_92 : Cond.fieldLink RX4 9 RX3 "kind" "I" ∈ ax_WS := ax_wl ax_tm1 wdl_3_ok 5 rfl
theorem wd_93 : Cond.fieldLink RX3 18 RX3 "kind" "I" ∈ ax_WS := ax_wl ax_tm1 wdl_3_ok 6 rfl
theorem wd_94 : Cond.fieldLink RX1 40 RX3 "kind" "I" ∈ ax_WS := ax_wl ax_tm1 wdl_3_ok 7 rfl
theorem wd_95 : Cond.fieldLink RX9 97 RX3 "kind" "I" ∈ ax_WS := ax_wl ax_tm1 wdl_3_ok 8 rfl
theorem wd_96 : Cond.fieldLink RX3 22 RX3 "first" "I" ∈ ax_WS := ax_wl ax_tm1 wdl_3_ok 9 rfl
theorem wd_97 : Cond.fieldLink RX9 86 RX3 "first" "I" ∈ ax_WS := ax_wl ax_tm1 wdl_3_ok 10 rfl
theorem wd_98 : Cond.fieldLink RX3 25 RX3 "last" "I" ∈ ax_WS := ax_wl ax_tm1 wdl_3_ok 11 rfl
theorem wd_99 : Cond.fieldLink RX9 91 RX3 "last" "I" ∈ ax_WS := ax_wl ax_tm1 wdl_3_ok 12 rfl
theorem wd_100 : Cond.fieldLink RX3 9 RX3 "inputs" "[I" ∈ ax_WS := ax_wl ax_tm1 wdl_3_ok 13 rfl
theorem wd_101 : Cond.fieldLink RX6 98 RX3 "inputs" "[I" ∈ ax_WS := ax_wl ax_tm1 wdl_3_ok 14 rfl
theorem wd_102 : Cond.fieldLink RX1 63 RX3 "inputs" "[I" ∈ ax_WS := ax_wl ax_tm1 wdl_3_ok 15 rfl
theorem wd_103 : Cond.fieldLink RX9 130 RX3 "inputs" "[I" ∈ ax_WS := ax_wl ax_tm1 wdl_3_ok 16 rfl
theorem wd_104 : Cond.fieldLink RX3 15 RX3 "parameters" "[I" ∈ ax_WS := ax_wl ax_tm1 wdl_3_ok 17 rfl
theorem wd_105 : Cond.fieldLink RX4 15 RX3 "parameters" "[I" ∈ ax_WS := ax_wl ax_tm1 wdl_3_ok 18 rfl
theorem wd_106 : Cond.fieldLink RX9 109 RX3 "parameters" "[I" ∈ ax_WS := ax_wl ax_tm1 wdl_3_ok 19 rfl
theorem wd_107 : Cond.fieldLink RX6 103 RX3 "parameters" "[I" ∈ ax_WS := ax_wl ax_tm1 wdl_3_ok 20 rfl
theorem wd_119 : Cond.arrayClass .int ∈ ax_WS := ax_wl ax_tm1 wdl_3_ok 21 rfl
theorem wd_120 : Cond.fieldLink RX1 11 RX1 "nodes" "[LGradeGraph$Node;" ∈ ax_WS := ax_wl ax_tm1 wdl_3_ok 22 rfl
theorem wd_121 : Cond.fieldLink RX9 82 RX1 "nodes" "[LGradeGraph$Node;" ∈ ax_WS := ax_wl ax_tm1 wdl_3_ok 23 rfl
theorem wd_122 : Cond.fieldLink RX1 28 RX1 "size" "I" ∈ ax_WS := ax_wl ax_tm1 wdl_3_ok 24 rfl
theorem wd_123 : Cond.fieldLink RX9 42 RX1 "size" "I" ∈ ax_WS := ax_wl ax_tm1 wdl_3_ok 25 rfl
theorem wd_124 : Cond.fieldLink RX1 17 RX1 "order" "[I" ∈ ax_WS := ax_wl ax_tm1 wdl_3_ok 26 rfl
theorem wd_125 : Cond.fieldLink RX1 21 RX1 "places" "[I" ∈ ax_WS := ax_wl ax_tm1 wdl_3_ok 27 rfl
theorem wd_126 : Cond.fieldLink RX9 124 RX1 "places" "[I" ∈ ax_WS := ax_wl ax_tm1 wdl_3_ok 28 rfl
theorem wd_127 : Cond.fieldLink RX1 24 RX1 "depths" "[I" ∈ ax_WS := ax_wl ax_tm1 wdl_3_ok 29 rfl
def wdl_4 : List Cond := [Cond.fieldLink RX9 127 RX1 "depths" "[I", Cond.classLink RX9 16 RX0, Cond.instantiable RX0 8, Cond.methodLink RX9 18 yX0_init, Cond.instanceMethod yX0_init, Cond.code yX0_init cX0_init 2 none, Cond.methodLink RX0 3 Lib.objectInit, Cond.classLink RX0 9 RX5, Cond.instantiable RX5 4, Cond.instanceMethod yX5_init, Cond.code yX5_init cX5_init 1 none, Cond.methodLink RX5 3 Lib.objectInit, Cond.fieldLink RX0 25 RX5 "node" "I", Cond.fieldLink RX0 28 RX5 "frame" "I", Cond.fieldLink RX0 66 RX5 "lastUse" "I", Cond.fieldLink RX5 9 RX5 "values" "[I", Cond.fieldLink RX9 264 RX5 "values" "[I", Cond.fieldLink RX0 11 RX0 "pictures" "[LGradeGraph$Picture;", Cond.fieldLink RX0 63 RX0 "uses" "I", Cond.fieldLink RX0 22 RX0 "size" "I", Cond.fieldLink RX9 174 RX0 "size" "I", Cond.fieldLink RX0 17 RX0 "room" "I", Cond.fieldLink RX9 163 RX0 "room" "I", Cond.fieldLink RX0 31 RX0 "hits" "I", Cond.fieldLink RX9 175 RX0 "hits" "I", Cond.fieldLink RX0 38 RX0 "misses" "I", Cond.fieldLink RX9 178 RX0 "misses" "I", Cond.fieldLink RX0 69 RX0 "dropped" "I", Cond.fieldLink RX9 181 RX0 "dropped" "I", Cond.fieldLink RX0 60 RX0 "voided" "I"]
theorem wdl_4_ok : wdl_4.all goodWord = true ∧ [77, 89, 90, 91, 92, 93, 94, 95, 97, 99, 100, 101, 102, 103, 104, 105, 106, 116, 117, 118, 119, 120, 121, 122, 123, 124, 125, 126, 127, 128].map (fun i => tables_1_1[i]?) = wdl_4.map some := by decide +kernel
theorem wd_128 : Cond.fieldLink RX9 127 RX1 "depths" "[I" ∈ ax_WS := ax_wl ax_tm1 wdl_4_ok 0 rfl
theorem wd_140 : Cond.classLink RX9 16 RX0 ∈ ax_WS := ax_wl ax_tm1 wdl_4_ok 1 rfl
theorem wd_141 : Cond.instantiable RX0 8 ∈ ax_WS := ax_wl ax_tm1 wdl_4_ok 2 rfl
theorem wd_142 : Cond.methodLink RX9 18 yX0_init ∈ ax_WS := ax_wl ax_tm1 wdl_4_ok 3 rfl
theorem wd_143 : Cond.instanceMethod yX0_init ∈ ax_WS := ax_wl ax_tm1 wdl_4_ok 4 rfl
theorem wd_144 : Cond.code yX0_init cX0_init 2 none ∈ ax_WS := ax_wl ax_tm1 wdl_4_ok 5 rfl
theorem wd_145 : Cond.methodLink RX0 3 Lib.objectInit ∈ ax_WS := ax_wl ax_tm1 wdl_4_ok 6 rfl
theorem wd_146 : Cond.classLink RX0 9 RX5 ∈ ax_WS := ax_wl ax_tm1 wdl_4_ok 7 rfl
theorem wd_148 : Cond.instantiable RX5 4 ∈ ax_WS := ax_wl ax_tm1 wdl_4_ok 8 rfl
theorem wd_150 : Cond.instanceMethod yX5_init ∈ ax_WS := ax_wl ax_tm1 wdl_4_ok 9 rfl
theorem wd_151 : Cond.code yX5_init cX5_init 1 none ∈ ax_WS := ax_wl ax_tm1 wdl_4_ok 10 rfl
theorem wd_152 : Cond.methodLink RX5 3 Lib.objectInit ∈ ax_WS := ax_wl ax_tm1 wdl_4_ok 11 rfl
theorem wd_153 : Cond.fieldLink RX0 25 RX5 "node" "I" ∈ ax_WS := ax_wl ax_tm1 wdl_4_ok 12 rfl
theorem wd_154 : Cond.fieldLink RX0 28 RX5 "frame" "I" ∈ ax_WS := ax_wl ax_tm1 wdl_4_ok 13 rfl
theorem wd_155 : Cond.fieldLink RX0 66 RX5 "lastUse" "I" ∈ ax_WS := ax_wl ax_tm1 wdl_4_ok 14 rfl
theorem wd_156 : Cond.fieldLink RX5 9 RX5 "values" "[I" ∈ ax_WS := ax_wl ax_tm1 wdl_4_ok 15 rfl
theorem wd_157 : Cond.fieldLink RX9 264 RX5 "values" "[I" ∈ ax_WS := ax_wl ax_tm1 wdl_4_ok 16 rfl
theorem wd_167 : Cond.fieldLink RX0 11 RX0 "pictures" "[LGradeGraph$Picture;" ∈ ax_WS := ax_wl ax_tm1 wdl_4_ok 17 rfl
theorem wd_168 : Cond.fieldLink RX0 63 RX0 "uses" "I" ∈ ax_WS := ax_wl ax_tm1 wdl_4_ok 18 rfl
theorem wd_169 : Cond.fieldLink RX0 22 RX0 "size" "I" ∈ ax_WS := ax_wl ax_tm1 wdl_4_ok 19 rfl
theorem wd_170 : Cond.fieldLink RX9 174 RX0 "size" "I" ∈ ax_WS := ax_wl ax_tm1 wdl_4_ok 20 rfl
theorem wd_171 : Cond.fieldLink RX0 17 RX0 "room" "I" ∈ ax_WS := ax_wl ax_tm1 wdl_4_ok 21 rfl
theorem wd_172 : Cond.fieldLink RX9 163 RX0 "room" "I" ∈ ax_WS := ax_wl ax_tm1 wdl_4_ok 22 rfl
theorem wd_173 : Cond.fieldLink RX0 31 RX0 "hits" "I" ∈ ax_WS := ax_wl ax_tm1 wdl_4_ok 23 rfl
theorem wd_174 : Cond.fieldLink RX9 175 RX0 "hits" "I" ∈ ax_WS := ax_wl ax_tm1 wdl_4_ok 24 rfl
theorem wd_175 : Cond.fieldLink RX0 38 RX0 "misses" "I" ∈ ax_WS := ax_wl ax_tm1 wdl_4_ok 25 rfl
theorem wd_176 : Cond.fieldLink RX9 178 RX0 "misses" "I" ∈ ax_WS := ax_wl ax_tm1 wdl_4_ok 26 rfl
theorem wd_177 : Cond.fieldLink RX0 69 RX0 "dropped" "I" ∈ ax_WS := ax_wl ax_tm1 wdl_4_ok 27 rfl
theorem wd_178 : Cond.fieldLink RX9 181 RX0 "dropped" "I" ∈ ax_WS := ax_wl ax_tm1 wdl_4_ok 28 rfl
theorem wd_179 : Cond.fieldLink RX0 60 RX0 "voided" "I" ∈ ax_WS := ax_wl ax_tm1 wdl_4_ok 29 rfl
def wdl_5 : List Cond := [Cond.fieldLink RX9 184 RX0 "voided" "I", Cond.classLink RX9 23 RX6, Cond.instantiable RX6 7, Cond.methodLink RX9 25 yX6_init, Cond.instanceMethod yX6_init, Cond.code yX6_init cX6_init 2 none, Cond.methodLink RX6 3 Lib.objectInit, Cond.classLink RX6 9 RX8, Cond.instantiable RX8 2, Cond.instanceMethod yX8_init, Cond.code yX8_init cX8_init 1 none, Cond.methodLink RX8 3 Lib.objectInit, Cond.fieldLink RX8 9 RX8 "bytes" "[B", Cond.fieldLink RX8 15 RX8 "length" "I", Cond.fieldLink RX6 47 RX8 "length" "I", Cond.fieldLink RX9 196 RX8 "length" "I", Cond.arrayClass .byte, Cond.classLink RX6 22 RX3, Cond.fieldLink RX6 12 RX6 "text" "LGradeGraph$Text;", Cond.fieldLink RX9 187 RX6 "text" "LGradeGraph$Text;", Cond.fieldLink RX6 18 RX6 "numbers" "[I", Cond.fieldLink RX6 24 RX6 "drafts" "[LGradeGraph$Node;", Cond.fieldLink RX9 216 RX6 "drafts" "[LGradeGraph$Node;", Cond.fieldLink RX6 33 RX6 "found" "I", Cond.fieldLink RX9 213 RX6 "found" "I", Cond.fieldLink RX6 29 RX6 "known" "I", Cond.fieldLink RX6 36 RX6 "position" "I", Cond.fieldLink RX9 207 RX6 "position" "I", Cond.fieldLink RX6 39 RX6 "faulty" "Z", Cond.fieldLink RX9 203 RX6 "faulty" "Z"]
theorem wdl_5_ok : wdl_5.all goodWord = true ∧ [129, 147, 148, 149, 150, 151, 152, 153, 154, 156, 157, 158, 159, 160, 161, 162, 168, 169, 171, 172, 173, 174, 175, 176, 177, 178, 179, 180, 181, 182].map (fun i => tables_1_1[i]?) = wdl_5.map some := by decide +kernel
theorem wd_180 : Cond.fieldLink RX9 184 RX0 "voided" "I" ∈ ax_WS := ax_wl ax_tm1 wdl_5_ok 0 rfl
theorem wd_198 : Cond.classLink RX9 23 RX6 ∈ ax_WS := ax_wl ax_tm1 wdl_5_ok 1 rfl
theorem wd_199 : Cond.instantiable RX6 7 ∈ ax_WS := ax_wl ax_tm1 wdl_5_ok 2 rfl
theorem wd_200 : Cond.methodLink RX9 25 yX6_init ∈ ax_WS := ax_wl ax_tm1 wdl_5_ok 3 rfl
theorem wd_201 : Cond.instanceMethod yX6_init ∈ ax_WS := ax_wl ax_tm1 wdl_5_ok 4 rfl
theorem wd_202 : Cond.code yX6_init cX6_init 2 none ∈ ax_WS := ax_wl ax_tm1 wdl_5_ok 5 rfl
theorem wd_203 : Cond.methodLink RX6 3 Lib.objectInit ∈ ax_WS := ax_wl ax_tm1 wdl_5_ok 6 rfl
theorem wd_204 : Cond.classLink RX6 9 RX8 ∈ ax_WS := ax_wl ax_tm1 wdl_5_ok 7 rfl
theorem wd_205 : Cond.instantiable RX8 2 ∈ ax_WS := ax_wl ax_tm1 wdl_5_ok 8 rfl
theorem wd_207 : Cond.instanceMethod yX8_init ∈ ax_WS := ax_wl ax_tm1 wdl_5_ok 9 rfl
theorem wd_208 : Cond.code yX8_init cX8_init 1 none ∈ ax_WS := ax_wl ax_tm1 wdl_5_ok 10 rfl
theorem wd_209 : Cond.methodLink RX8 3 Lib.objectInit ∈ ax_WS := ax_wl ax_tm1 wdl_5_ok 11 rfl
theorem wd_210 : Cond.fieldLink RX8 9 RX8 "bytes" "[B" ∈ ax_WS := ax_wl ax_tm1 wdl_5_ok 12 rfl
theorem wd_211 : Cond.fieldLink RX8 15 RX8 "length" "I" ∈ ax_WS := ax_wl ax_tm1 wdl_5_ok 13 rfl
theorem wd_212 : Cond.fieldLink RX6 47 RX8 "length" "I" ∈ ax_WS := ax_wl ax_tm1 wdl_5_ok 14 rfl
theorem wd_213 : Cond.fieldLink RX9 196 RX8 "length" "I" ∈ ax_WS := ax_wl ax_tm1 wdl_5_ok 15 rfl
theorem wd_219 : Cond.arrayClass .byte ∈ ax_WS := ax_wl ax_tm1 wdl_5_ok 16 rfl
theorem wd_220 : Cond.classLink RX6 22 RX3 ∈ ax_WS := ax_wl ax_tm1 wdl_5_ok 17 rfl
theorem wd_222 : Cond.fieldLink RX6 12 RX6 "text" "LGradeGraph$Text;" ∈ ax_WS := ax_wl ax_tm1 wdl_5_ok 18 rfl
theorem wd_223 : Cond.fieldLink RX9 187 RX6 "text" "LGradeGraph$Text;" ∈ ax_WS := ax_wl ax_tm1 wdl_5_ok 19 rfl
theorem wd_224 : Cond.fieldLink RX6 18 RX6 "numbers" "[I" ∈ ax_WS := ax_wl ax_tm1 wdl_5_ok 20 rfl
theorem wd_225 : Cond.fieldLink RX6 24 RX6 "drafts" "[LGradeGraph$Node;" ∈ ax_WS := ax_wl ax_tm1 wdl_5_ok 21 rfl
theorem wd_226 : Cond.fieldLink RX9 216 RX6 "drafts" "[LGradeGraph$Node;" ∈ ax_WS := ax_wl ax_tm1 wdl_5_ok 22 rfl
theorem wd_227 : Cond.fieldLink RX6 33 RX6 "found" "I" ∈ ax_WS := ax_wl ax_tm1 wdl_5_ok 23 rfl
theorem wd_228 : Cond.fieldLink RX9 213 RX6 "found" "I" ∈ ax_WS := ax_wl ax_tm1 wdl_5_ok 24 rfl
theorem wd_229 : Cond.fieldLink RX6 29 RX6 "known" "I" ∈ ax_WS := ax_wl ax_tm1 wdl_5_ok 25 rfl
theorem wd_230 : Cond.fieldLink RX6 36 RX6 "position" "I" ∈ ax_WS := ax_wl ax_tm1 wdl_5_ok 26 rfl
theorem wd_231 : Cond.fieldLink RX9 207 RX6 "position" "I" ∈ ax_WS := ax_wl ax_tm1 wdl_5_ok 27 rfl
theorem wd_232 : Cond.fieldLink RX6 39 RX6 "faulty" "Z" ∈ ax_WS := ax_wl ax_tm1 wdl_5_ok 28 rfl
theorem wd_233 : Cond.fieldLink RX9 203 RX6 "faulty" "Z" ∈ ax_WS := ax_wl ax_tm1 wdl_5_ok 29 rfl
def wdl_6 : List Cond := [Cond.fieldLink RX9 12 RX9 "graph" "LGradeGraph$Graph;", Cond.fieldLink RX9 19 RX9 "cache" "LGradeGraph$Cache;", Cond.fieldLink RX9 26 RX9 "reader" "LGradeGraph$Reader;", Cond.fieldLink RX9 30 RX9 "slots" "[LGradeGraph$Graph;", Cond.fieldLink RX9 34 RX9 "saved" "[Z", Cond.fieldLink RX9 38 RX9 "black" "[I", Cond.arrayClass .boolean, Cond.methodLink RL 13 yX9_clear, Cond.instanceMethod yX9_clear, Cond.selects RX9 yX9_clear yX9_clear, Cond.code yX9_clear cX9_clear 2 (some .int), Cond.methodLink RX9 46 yX1_removeAll, Cond.instanceMethod yX1_removeAll, Cond.selects RX1 yX1_removeAll yX1_removeAll, Cond.code yX1_removeAll cX1_removeAll 1 none, Cond.methodLink RX9 49 yX0_empty, Cond.instanceMethod yX0_empty, Cond.selects RX0 yX0_empty yX0_empty, Cond.code yX0_empty cX0_empty 1 none, Cond.methodLink RL 18 yX9_addNode, Cond.instanceMethod yX9_addNode, Cond.selects RX9 yX9_addNode yX9_addNode, Cond.code yX9_addNode cX9_addNode 2 (some .int), Cond.methodLink RX9 52 yX9_isIn, Cond.static yX9_isIn, Cond.code yX9_isIn cX9_isIn 3 (some .boolean), Cond.methodLink RX9 56 yX1_add, Cond.instanceMethod yX1_add]
theorem wdl_6_ok : wdl_6.all goodWord = true ∧ [199, 200, 201, 202, 203, 204, 218, 219, 220, 221, 222, 223, 224, 225, 226, 227, 228, 229, 230, 231, 232, 233, 234, 235, 236, 237, 238, 239].map (fun i => tables_1_1[i]?) = wdl_6.map some := by decide +kernel
theorem wd_250 : Cond.fieldLink RX9 12 RX9 "graph" "LGradeGraph$Graph;" ∈ ax_WS := ax_wl ax_tm1 wdl_6_ok 0 rfl
theorem wd_251 : Cond.fieldLink RX9 19 RX9 "cache" "LGradeGraph$Cache;" ∈ ax_WS := ax_wl ax_tm1 wdl_6_ok 1 rfl
theorem wd_252 : Cond.fieldLink RX9 26 RX9 "reader" "LGradeGraph$Reader;" ∈ ax_WS := ax_wl ax_tm1 wdl_6_ok 2 rfl
theorem wd_253 : Cond.fieldLink RX9 30 RX9 "slots" "[LGradeGraph$Graph;" ∈ ax_WS := ax_wl ax_tm1 wdl_6_ok 3 rfl
theorem wd_254 : Cond.fieldLink RX9 34 RX9 "saved" "[Z" ∈ ax_WS := ax_wl ax_tm1 wdl_6_ok 4 rfl
theorem wd_255 : Cond.fieldLink RX9 38 RX9 "black" "[I" ∈ ax_WS := ax_wl ax_tm1 wdl_6_ok 5 rfl
theorem wd_269 : Cond.arrayClass .boolean ∈ ax_WS := ax_wl ax_tm1 wdl_6_ok 6 rfl
theorem wd_270 : Cond.methodLink RL 13 yX9_clear ∈ ax_WS := ax_wl ax_tm1 wdl_6_ok 7 rfl
theorem wd_271 : Cond.instanceMethod yX9_clear ∈ ax_WS := ax_wl ax_tm1 wdl_6_ok 8 rfl
theorem wd_272 : Cond.selects RX9 yX9_clear yX9_clear ∈ ax_WS := ax_wl ax_tm1 wdl_6_ok 9 rfl
theorem wd_273 : Cond.code yX9_clear cX9_clear 2 (some .int) ∈ ax_WS := ax_wl ax_tm1 wdl_6_ok 10 rfl
theorem wd_274 : Cond.methodLink RX9 46 yX1_removeAll ∈ ax_WS := ax_wl ax_tm1 wdl_6_ok 11 rfl
theorem wd_275 : Cond.instanceMethod yX1_removeAll ∈ ax_WS := ax_wl ax_tm1 wdl_6_ok 12 rfl
theorem wd_276 : Cond.selects RX1 yX1_removeAll yX1_removeAll ∈ ax_WS := ax_wl ax_tm1 wdl_6_ok 13 rfl
theorem wd_277 : Cond.code yX1_removeAll cX1_removeAll 1 none ∈ ax_WS := ax_wl ax_tm1 wdl_6_ok 14 rfl
theorem wd_278 : Cond.methodLink RX9 49 yX0_empty ∈ ax_WS := ax_wl ax_tm1 wdl_6_ok 15 rfl
theorem wd_279 : Cond.instanceMethod yX0_empty ∈ ax_WS := ax_wl ax_tm1 wdl_6_ok 16 rfl
theorem wd_280 : Cond.selects RX0 yX0_empty yX0_empty ∈ ax_WS := ax_wl ax_tm1 wdl_6_ok 17 rfl
theorem wd_281 : Cond.code yX0_empty cX0_empty 1 none ∈ ax_WS := ax_wl ax_tm1 wdl_6_ok 18 rfl
theorem wd_282 : Cond.methodLink RL 18 yX9_addNode ∈ ax_WS := ax_wl ax_tm1 wdl_6_ok 19 rfl
theorem wd_283 : Cond.instanceMethod yX9_addNode ∈ ax_WS := ax_wl ax_tm1 wdl_6_ok 20 rfl
theorem wd_284 : Cond.selects RX9 yX9_addNode yX9_addNode ∈ ax_WS := ax_wl ax_tm1 wdl_6_ok 21 rfl
theorem wd_285 : Cond.code yX9_addNode cX9_addNode 2 (some .int) ∈ ax_WS := ax_wl ax_tm1 wdl_6_ok 22 rfl
theorem wd_286 : Cond.methodLink RX9 52 yX9_isIn ∈ ax_WS := ax_wl ax_tm1 wdl_6_ok 23 rfl
theorem wd_287 : Cond.static yX9_isIn ∈ ax_WS := ax_wl ax_tm1 wdl_6_ok 24 rfl
theorem wd_288 : Cond.code yX9_isIn cX9_isIn 3 (some .boolean) ∈ ax_WS := ax_wl ax_tm1 wdl_6_ok 25 rfl
theorem wd_289 : Cond.methodLink RX9 56 yX1_add ∈ ax_WS := ax_wl ax_tm1 wdl_6_ok 26 rfl
theorem wd_290 : Cond.instanceMethod yX1_add ∈ ax_WS := ax_wl ax_tm1 wdl_6_ok 27 rfl
def wdl_7 : List Cond := [Cond.selects RX1 yX1_add yX1_add, Cond.code yX1_add cX1_add 3 (some .int), Cond.methodLink RX1 52 yX3_reset, Cond.instanceMethod yX3_reset, Cond.selects RX3 yX3_reset yX3_reset, Cond.code yX3_reset cX3_reset 3 none, Cond.methodLink RX3 28 yX2_atFirst, Cond.static yX2_atFirst, Cond.code yX2_atFirst cX2_atFirst 2 (some .int), Cond.fieldLink RX2 31 RX2 "AT_FIRST" "[I", Cond.methodLink RX2 15 yX2_entry, Cond.static yX2_entry, Cond.code yX2_entry cX2_entry 2 (some .int), Cond.methodLink RX1 56 yX1_arrange, Cond.instanceMethod yX1_arrange, Cond.code yX1_arrange cX1_arrange 4 none, Cond.methodLink RX1 77 yX1_firstReady, Cond.instanceMethod yX1_firstReady, Cond.code yX1_firstReady cX1_firstReady 4 (some .int), Cond.methodLink RX1 73 yX3_inputSet, Cond.instanceMethod yX3_inputSet, Cond.selects RX3 yX3_inputSet yX3_inputSet, Cond.code yX3_inputSet cX3_inputSet 3 (some .int), Cond.static yX9_contains, Cond.code yX9_contains cX9_contains 2 (some .boolean), Cond.methodLink RX1 80 yX1_depthBehindInputs, Cond.instanceMethod yX1_depthBehindInputs, Cond.code yX1_depthBehindInputs cX1_depthBehindInputs 5 (some .int), Cond.methodLink RX1 36 yX1_has, Cond.instanceMethod yX1_has]
theorem wdl_7_ok : wdl_7.all goodWord = true ∧ [0, 1, 2, 3, 4, 5, 6, 7, 8, 9, 11, 12, 13, 14, 16, 17, 18, 20, 21, 22, 23, 24, 25, 27, 28, 29, 31, 32, 33, 34].map (fun i => tables_1_2[i]?) = wdl_7.map some := by decide +kernel
theorem wd_291 : Cond.selects RX1 yX1_add yX1_add ∈ ax_WS := ax_wl ax_tm2 wdl_7_ok 0 rfl
theorem wd_292 : Cond.code yX1_add cX1_add 3 (some .int) ∈ ax_WS := ax_wl ax_tm2 wdl_7_ok 1 rfl
theorem wd_293 : Cond.methodLink RX1 52 yX3_reset ∈ ax_WS := ax_wl ax_tm2 wdl_7_ok 2 rfl
theorem wd_294 : Cond.instanceMethod yX3_reset ∈ ax_WS := ax_wl ax_tm2 wdl_7_ok 3 rfl
theorem wd_295 : Cond.selects RX3 yX3_reset yX3_reset ∈ ax_WS := ax_wl ax_tm2 wdl_7_ok 4 rfl
theorem wd_296 : Cond.code yX3_reset cX3_reset 3 none ∈ ax_WS := ax_wl ax_tm2 wdl_7_ok 5 rfl
theorem wd_297 : Cond.methodLink RX3 28 yX2_atFirst ∈ ax_WS := ax_wl ax_tm2 wdl_7_ok 6 rfl
theorem wd_298 : Cond.static yX2_atFirst ∈ ax_WS := ax_wl ax_tm2 wdl_7_ok 7 rfl
theorem wd_299 : Cond.code yX2_atFirst cX2_atFirst 2 (some .int) ∈ ax_WS := ax_wl ax_tm2 wdl_7_ok 8 rfl
theorem wd_300 : Cond.fieldLink RX2 31 RX2 "AT_FIRST" "[I" ∈ ax_WS := ax_wl ax_tm2 wdl_7_ok 9 rfl
theorem wd_302 : Cond.methodLink RX2 15 yX2_entry ∈ ax_WS := ax_wl ax_tm2 wdl_7_ok 10 rfl
theorem wd_303 : Cond.static yX2_entry ∈ ax_WS := ax_wl ax_tm2 wdl_7_ok 11 rfl
theorem wd_304 : Cond.code yX2_entry cX2_entry 2 (some .int) ∈ ax_WS := ax_wl ax_tm2 wdl_7_ok 12 rfl
theorem wd_305 : Cond.methodLink RX1 56 yX1_arrange ∈ ax_WS := ax_wl ax_tm2 wdl_7_ok 13 rfl
theorem wd_307 : Cond.instanceMethod yX1_arrange ∈ ax_WS := ax_wl ax_tm2 wdl_7_ok 14 rfl
theorem wd_308 : Cond.code yX1_arrange cX1_arrange 4 none ∈ ax_WS := ax_wl ax_tm2 wdl_7_ok 15 rfl
theorem wd_309 : Cond.methodLink RX1 77 yX1_firstReady ∈ ax_WS := ax_wl ax_tm2 wdl_7_ok 16 rfl
theorem wd_311 : Cond.instanceMethod yX1_firstReady ∈ ax_WS := ax_wl ax_tm2 wdl_7_ok 17 rfl
theorem wd_312 : Cond.code yX1_firstReady cX1_firstReady 4 (some .int) ∈ ax_WS := ax_wl ax_tm2 wdl_7_ok 18 rfl
theorem wd_313 : Cond.methodLink RX1 73 yX3_inputSet ∈ ax_WS := ax_wl ax_tm2 wdl_7_ok 19 rfl
theorem wd_314 : Cond.instanceMethod yX3_inputSet ∈ ax_WS := ax_wl ax_tm2 wdl_7_ok 20 rfl
theorem wd_315 : Cond.selects RX3 yX3_inputSet yX3_inputSet ∈ ax_WS := ax_wl ax_tm2 wdl_7_ok 21 rfl
theorem wd_316 : Cond.code yX3_inputSet cX3_inputSet 3 (some .int) ∈ ax_WS := ax_wl ax_tm2 wdl_7_ok 22 rfl
theorem wd_318 : Cond.static yX9_contains ∈ ax_WS := ax_wl ax_tm2 wdl_7_ok 23 rfl
theorem wd_319 : Cond.code yX9_contains cX9_contains 2 (some .boolean) ∈ ax_WS := ax_wl ax_tm2 wdl_7_ok 24 rfl
theorem wd_320 : Cond.methodLink RX1 80 yX1_depthBehindInputs ∈ ax_WS := ax_wl ax_tm2 wdl_7_ok 25 rfl
theorem wd_322 : Cond.instanceMethod yX1_depthBehindInputs ∈ ax_WS := ax_wl ax_tm2 wdl_7_ok 26 rfl
theorem wd_323 : Cond.code yX1_depthBehindInputs cX1_depthBehindInputs 5 (some .int) ∈ ax_WS := ax_wl ax_tm2 wdl_7_ok 27 rfl
theorem wd_324 : Cond.methodLink RX1 36 yX1_has ∈ ax_WS := ax_wl ax_tm2 wdl_7_ok 28 rfl
theorem wd_325 : Cond.instanceMethod yX1_has ∈ ax_WS := ax_wl ax_tm2 wdl_7_ok 29 rfl
def wdl_8 : List Cond := [Cond.selects RX1 yX1_has yX1_has, Cond.code yX1_has cX1_has 2 (some .boolean), Cond.methodLink RX1 87 Lib.Math.max.name, Cond.static Lib.Math.max.name, Cond.code Lib.Math.max.name Lib.Math.max.code 2 (some .int), Cond.methodLink RL 23 yX9_connect, Cond.instanceMethod yX9_connect, Cond.selects RX9 yX9_connect yX9_connect, Cond.code yX9_connect cX9_connect 6 (some .int), Cond.methodLink RX9 60 yX1_hasInput, Cond.instanceMethod yX1_hasInput, Cond.selects RX1 yX1_hasInput yX1_hasInput, Cond.code yX1_hasInput cX1_hasInput 3 (some .boolean), Cond.methodLink RX1 43 yX2_inputs, Cond.static yX2_inputs, Cond.code yX2_inputs cX2_inputs 1 (some .int), Cond.fieldLink RX2 9 RX2 "INPUTS" "[I", Cond.methodLink RX9 64 yX1_has, Cond.methodLink RX9 68 yX1_dependents, Cond.instanceMethod yX1_dependents, Cond.selects RX1 yX1_dependents yX1_dependents, Cond.code yX1_dependents cX1_dependents 5 (some .int), Cond.methodLink RX9 71 yX9_contains, Cond.methodLink RX9 74 yX1_link, Cond.instanceMethod yX1_link, Cond.selects RX1 yX1_link yX1_link, Cond.code yX1_link cX1_link 4 none, Cond.methodLink RX1 59 yX1_hasInput, Cond.methodLink RX9 78 yX0_makeVoid, Cond.instanceMethod yX0_makeVoid]
theorem wdl_8_ok : wdl_8.all goodWord = true ∧ [35, 36, 38, 39, 40, 41, 42, 43, 44, 45, 46, 47, 48, 49, 50, 51, 52, 54, 55, 56, 57, 58, 59, 60, 61, 62, 63, 64, 65, 66].map (fun i => tables_1_2[i]?) = wdl_8.map some := by decide +kernel
theorem wd_326 : Cond.selects RX1 yX1_has yX1_has ∈ ax_WS := ax_wl ax_tm2 wdl_8_ok 0 rfl
theorem wd_327 : Cond.code yX1_has cX1_has 2 (some .boolean) ∈ ax_WS := ax_wl ax_tm2 wdl_8_ok 1 rfl
theorem wd_329 : Cond.methodLink RX1 87 Lib.Math.max.name ∈ ax_WS := ax_wl ax_tm2 wdl_8_ok 2 rfl
theorem wd_330 : Cond.static Lib.Math.max.name ∈ ax_WS := ax_wl ax_tm2 wdl_8_ok 3 rfl
theorem wd_331 : Cond.code Lib.Math.max.name Lib.Math.max.code 2 (some .int) ∈ ax_WS := ax_wl ax_tm2 wdl_8_ok 4 rfl
theorem wd_332 : Cond.methodLink RL 23 yX9_connect ∈ ax_WS := ax_wl ax_tm2 wdl_8_ok 5 rfl
theorem wd_333 : Cond.instanceMethod yX9_connect ∈ ax_WS := ax_wl ax_tm2 wdl_8_ok 6 rfl
theorem wd_334 : Cond.selects RX9 yX9_connect yX9_connect ∈ ax_WS := ax_wl ax_tm2 wdl_8_ok 7 rfl
theorem wd_335 : Cond.code yX9_connect cX9_connect 6 (some .int) ∈ ax_WS := ax_wl ax_tm2 wdl_8_ok 8 rfl
theorem wd_336 : Cond.methodLink RX9 60 yX1_hasInput ∈ ax_WS := ax_wl ax_tm2 wdl_8_ok 9 rfl
theorem wd_337 : Cond.instanceMethod yX1_hasInput ∈ ax_WS := ax_wl ax_tm2 wdl_8_ok 10 rfl
theorem wd_338 : Cond.selects RX1 yX1_hasInput yX1_hasInput ∈ ax_WS := ax_wl ax_tm2 wdl_8_ok 11 rfl
theorem wd_339 : Cond.code yX1_hasInput cX1_hasInput 3 (some .boolean) ∈ ax_WS := ax_wl ax_tm2 wdl_8_ok 12 rfl
theorem wd_340 : Cond.methodLink RX1 43 yX2_inputs ∈ ax_WS := ax_wl ax_tm2 wdl_8_ok 13 rfl
theorem wd_341 : Cond.static yX2_inputs ∈ ax_WS := ax_wl ax_tm2 wdl_8_ok 14 rfl
theorem wd_342 : Cond.code yX2_inputs cX2_inputs 1 (some .int) ∈ ax_WS := ax_wl ax_tm2 wdl_8_ok 15 rfl
theorem wd_343 : Cond.fieldLink RX2 9 RX2 "INPUTS" "[I" ∈ ax_WS := ax_wl ax_tm2 wdl_8_ok 16 rfl
theorem wd_345 : Cond.methodLink RX9 64 yX1_has ∈ ax_WS := ax_wl ax_tm2 wdl_8_ok 17 rfl
theorem wd_346 : Cond.methodLink RX9 68 yX1_dependents ∈ ax_WS := ax_wl ax_tm2 wdl_8_ok 18 rfl
theorem wd_347 : Cond.instanceMethod yX1_dependents ∈ ax_WS := ax_wl ax_tm2 wdl_8_ok 19 rfl
theorem wd_348 : Cond.selects RX1 yX1_dependents yX1_dependents ∈ ax_WS := ax_wl ax_tm2 wdl_8_ok 20 rfl
theorem wd_349 : Cond.code yX1_dependents cX1_dependents 5 (some .int) ∈ ax_WS := ax_wl ax_tm2 wdl_8_ok 21 rfl
theorem wd_350 : Cond.methodLink RX9 71 yX9_contains ∈ ax_WS := ax_wl ax_tm2 wdl_8_ok 22 rfl
theorem wd_351 : Cond.methodLink RX9 74 yX1_link ∈ ax_WS := ax_wl ax_tm2 wdl_8_ok 23 rfl
theorem wd_352 : Cond.instanceMethod yX1_link ∈ ax_WS := ax_wl ax_tm2 wdl_8_ok 24 rfl
theorem wd_353 : Cond.selects RX1 yX1_link yX1_link ∈ ax_WS := ax_wl ax_tm2 wdl_8_ok 25 rfl
theorem wd_354 : Cond.code yX1_link cX1_link 4 none ∈ ax_WS := ax_wl ax_tm2 wdl_8_ok 26 rfl
theorem wd_355 : Cond.methodLink RX1 59 yX1_hasInput ∈ ax_WS := ax_wl ax_tm2 wdl_8_ok 27 rfl
theorem wd_356 : Cond.methodLink RX9 78 yX0_makeVoid ∈ ax_WS := ax_wl ax_tm2 wdl_8_ok 28 rfl
theorem wd_357 : Cond.instanceMethod yX0_makeVoid ∈ ax_WS := ax_wl ax_tm2 wdl_8_ok 29 rfl
def wdl_9 : List Cond := [Cond.selects RX0 yX0_makeVoid yX0_makeVoid, Cond.code yX0_makeVoid cX0_makeVoid 4 (some .int), Cond.methodLink RX0 44 yX0_makeVoidInOne, Cond.instanceMethod yX0_makeVoidInOne, Cond.selects RX0 yX0_makeVoidInOne yX0_makeVoidInOne, Cond.code yX0_makeVoidInOne cX0_makeVoidInOne 11 (some .int), Cond.methodLink RX0 56 yX0_remove, Cond.instanceMethod yX0_remove, Cond.code yX0_remove cX0_remove 3 none, Cond.methodLink RL 28 yX9_set, Cond.instanceMethod yX9_set, Cond.selects RX9 yX9_set yX9_set, Cond.code yX9_set cX9_set 6 (some .int), Cond.methodLink RX9 94 yX1_hasParameter, Cond.instanceMethod yX1_hasParameter, Cond.selects RX1 yX1_hasParameter yX1_hasParameter, Cond.code yX1_hasParameter cX1_hasParameter 3 (some .boolean), Cond.methodLink RX1 49 yX2_parameters, Cond.static yX2_parameters, Cond.code yX2_parameters cX2_parameters 1 (some .int), Cond.fieldLink RX2 19 RX2 "PARAMETERS" "[I", Cond.methodLink RX9 100 yX2_lowest, Cond.static yX2_lowest, Cond.code yX2_lowest cX2_lowest 2 (some .int), Cond.fieldLink RX2 25 RX2 "LOWEST" "[I", Cond.methodLink RX9 106 yX2_highest, Cond.static yX2_highest, Cond.code yX2_highest cX2_highest 2 (some .int), Cond.fieldLink RX2 28 RX2 "HIGHEST" "[I", Cond.methodLink RL 32 yX9_setRange]
theorem wdl_9_ok : wdl_9.all goodWord = true ∧ [67, 68, 69, 70, 71, 72, 75, 77, 78, 79, 80, 81, 82, 83, 84, 85, 86, 87, 88, 89, 90, 92, 93, 94, 95, 97, 98, 99, 100, 102].map (fun i => tables_1_2[i]?) = wdl_9.map some := by decide +kernel
theorem wd_358 : Cond.selects RX0 yX0_makeVoid yX0_makeVoid ∈ ax_WS := ax_wl ax_tm2 wdl_9_ok 0 rfl
theorem wd_359 : Cond.code yX0_makeVoid cX0_makeVoid 4 (some .int) ∈ ax_WS := ax_wl ax_tm2 wdl_9_ok 1 rfl
theorem wd_360 : Cond.methodLink RX0 44 yX0_makeVoidInOne ∈ ax_WS := ax_wl ax_tm2 wdl_9_ok 2 rfl
theorem wd_361 : Cond.instanceMethod yX0_makeVoidInOne ∈ ax_WS := ax_wl ax_tm2 wdl_9_ok 3 rfl
theorem wd_362 : Cond.selects RX0 yX0_makeVoidInOne yX0_makeVoidInOne ∈ ax_WS := ax_wl ax_tm2 wdl_9_ok 4 rfl
theorem wd_363 : Cond.code yX0_makeVoidInOne cX0_makeVoidInOne 11 (some .int) ∈ ax_WS := ax_wl ax_tm2 wdl_9_ok 5 rfl
theorem wd_366 : Cond.methodLink RX0 56 yX0_remove ∈ ax_WS := ax_wl ax_tm2 wdl_9_ok 6 rfl
theorem wd_368 : Cond.instanceMethod yX0_remove ∈ ax_WS := ax_wl ax_tm2 wdl_9_ok 7 rfl
theorem wd_369 : Cond.code yX0_remove cX0_remove 3 none ∈ ax_WS := ax_wl ax_tm2 wdl_9_ok 8 rfl
theorem wd_370 : Cond.methodLink RL 28 yX9_set ∈ ax_WS := ax_wl ax_tm2 wdl_9_ok 9 rfl
theorem wd_371 : Cond.instanceMethod yX9_set ∈ ax_WS := ax_wl ax_tm2 wdl_9_ok 10 rfl
theorem wd_372 : Cond.selects RX9 yX9_set yX9_set ∈ ax_WS := ax_wl ax_tm2 wdl_9_ok 11 rfl
theorem wd_373 : Cond.code yX9_set cX9_set 6 (some .int) ∈ ax_WS := ax_wl ax_tm2 wdl_9_ok 12 rfl
theorem wd_374 : Cond.methodLink RX9 94 yX1_hasParameter ∈ ax_WS := ax_wl ax_tm2 wdl_9_ok 13 rfl
theorem wd_375 : Cond.instanceMethod yX1_hasParameter ∈ ax_WS := ax_wl ax_tm2 wdl_9_ok 14 rfl
theorem wd_376 : Cond.selects RX1 yX1_hasParameter yX1_hasParameter ∈ ax_WS := ax_wl ax_tm2 wdl_9_ok 15 rfl
theorem wd_377 : Cond.code yX1_hasParameter cX1_hasParameter 3 (some .boolean) ∈ ax_WS := ax_wl ax_tm2 wdl_9_ok 16 rfl
theorem wd_378 : Cond.methodLink RX1 49 yX2_parameters ∈ ax_WS := ax_wl ax_tm2 wdl_9_ok 17 rfl
theorem wd_379 : Cond.static yX2_parameters ∈ ax_WS := ax_wl ax_tm2 wdl_9_ok 18 rfl
theorem wd_380 : Cond.code yX2_parameters cX2_parameters 1 (some .int) ∈ ax_WS := ax_wl ax_tm2 wdl_9_ok 19 rfl
theorem wd_381 : Cond.fieldLink RX2 19 RX2 "PARAMETERS" "[I" ∈ ax_WS := ax_wl ax_tm2 wdl_9_ok 20 rfl
theorem wd_383 : Cond.methodLink RX9 100 yX2_lowest ∈ ax_WS := ax_wl ax_tm2 wdl_9_ok 21 rfl
theorem wd_384 : Cond.static yX2_lowest ∈ ax_WS := ax_wl ax_tm2 wdl_9_ok 22 rfl
theorem wd_385 : Cond.code yX2_lowest cX2_lowest 2 (some .int) ∈ ax_WS := ax_wl ax_tm2 wdl_9_ok 23 rfl
theorem wd_386 : Cond.fieldLink RX2 25 RX2 "LOWEST" "[I" ∈ ax_WS := ax_wl ax_tm2 wdl_9_ok 24 rfl
theorem wd_388 : Cond.methodLink RX9 106 yX2_highest ∈ ax_WS := ax_wl ax_tm2 wdl_9_ok 25 rfl
theorem wd_389 : Cond.static yX2_highest ∈ ax_WS := ax_wl ax_tm2 wdl_9_ok 26 rfl
theorem wd_390 : Cond.code yX2_highest cX2_highest 2 (some .int) ∈ ax_WS := ax_wl ax_tm2 wdl_9_ok 27 rfl
theorem wd_391 : Cond.fieldLink RX2 28 RX2 "HIGHEST" "[I" ∈ ax_WS := ax_wl ax_tm2 wdl_9_ok 28 rfl
theorem wd_393 : Cond.methodLink RL 32 yX9_setRange ∈ ax_WS := ax_wl ax_tm2 wdl_9_ok 29 rfl
def wdl_10 : List Cond := [Cond.instanceMethod yX9_setRange, Cond.selects RX9 yX9_setRange yX9_setRange, Cond.code yX9_setRange cX9_setRange 7 (some .int), Cond.methodLink RX9 112 yX9_isFrame, Cond.static yX9_isFrame, Cond.code yX9_isFrame cX9_isFrame 1 (some .boolean), Cond.methodLink RX9 115 yX0_makeVoidInOne, Cond.methodLink RL 36 yX9_nodes, Cond.instanceMethod yX9_nodes, Cond.selects RX9 yX9_nodes yX9_nodes, Cond.code yX9_nodes cX9_nodes 1 (some .int), Cond.methodLink RL 40 yX9_node, Cond.instanceMethod yX9_node, Cond.selects RX9 yX9_node yX9_node, Cond.code yX9_node cX9_node 3 (some .int), Cond.methodLink RX9 119 yJ6_bitCount_0f7a4, Cond.static yJ6_bitCount_0f7a4, Cond.code yJ6_bitCount_0f7a4 cJ6_bitCount_0f7a4 1 (some .int), Cond.constant RJ6 265 (1431655765), Cond.constant RJ6 266 (858993459), Cond.constant RJ6 267 (252645135), Cond.methodLink RL 45 yX9_input, Cond.instanceMethod yX9_input, Cond.selects RX9 yX9_input yX9_input, Cond.code yX9_input cX9_input 3 (some .int), Cond.methodLink RL 49 yX9_parameter, Cond.instanceMethod yX9_parameter, Cond.selects RX9 yX9_parameter yX9_parameter, Cond.code yX9_parameter cX9_parameter 3 (some .int), Cond.methodLink RL 53 yX9_value]
theorem wdl_10_ok : wdl_10.all goodWord = true ∧ [103, 104, 105, 106, 107, 108, 109, 110, 111, 112, 113, 114, 115, 116, 117, 118, 119, 120, 121, 122, 123, 124, 125, 126, 127, 128, 129, 130, 131, 132].map (fun i => tables_1_2[i]?) = wdl_10.map some := by decide +kernel
theorem wd_394 : Cond.instanceMethod yX9_setRange ∈ ax_WS := ax_wl ax_tm2 wdl_10_ok 0 rfl
theorem wd_395 : Cond.selects RX9 yX9_setRange yX9_setRange ∈ ax_WS := ax_wl ax_tm2 wdl_10_ok 1 rfl
theorem wd_396 : Cond.code yX9_setRange cX9_setRange 7 (some .int) ∈ ax_WS := ax_wl ax_tm2 wdl_10_ok 2 rfl
theorem wd_397 : Cond.methodLink RX9 112 yX9_isFrame ∈ ax_WS := ax_wl ax_tm2 wdl_10_ok 3 rfl
theorem wd_398 : Cond.static yX9_isFrame ∈ ax_WS := ax_wl ax_tm2 wdl_10_ok 4 rfl
theorem wd_399 : Cond.code yX9_isFrame cX9_isFrame 1 (some .boolean) ∈ ax_WS := ax_wl ax_tm2 wdl_10_ok 5 rfl
theorem wd_400 : Cond.methodLink RX9 115 yX0_makeVoidInOne ∈ ax_WS := ax_wl ax_tm2 wdl_10_ok 6 rfl
theorem wd_401 : Cond.methodLink RL 36 yX9_nodes ∈ ax_WS := ax_wl ax_tm2 wdl_10_ok 7 rfl
theorem wd_402 : Cond.instanceMethod yX9_nodes ∈ ax_WS := ax_wl ax_tm2 wdl_10_ok 8 rfl
theorem wd_403 : Cond.selects RX9 yX9_nodes yX9_nodes ∈ ax_WS := ax_wl ax_tm2 wdl_10_ok 9 rfl
theorem wd_404 : Cond.code yX9_nodes cX9_nodes 1 (some .int) ∈ ax_WS := ax_wl ax_tm2 wdl_10_ok 10 rfl
theorem wd_405 : Cond.methodLink RL 40 yX9_node ∈ ax_WS := ax_wl ax_tm2 wdl_10_ok 11 rfl
theorem wd_406 : Cond.instanceMethod yX9_node ∈ ax_WS := ax_wl ax_tm2 wdl_10_ok 12 rfl
theorem wd_407 : Cond.selects RX9 yX9_node yX9_node ∈ ax_WS := ax_wl ax_tm2 wdl_10_ok 13 rfl
theorem wd_408 : Cond.code yX9_node cX9_node 3 (some .int) ∈ ax_WS := ax_wl ax_tm2 wdl_10_ok 14 rfl
theorem wd_409 : Cond.methodLink RX9 119 yJ6_bitCount_0f7a4 ∈ ax_WS := ax_wl ax_tm2 wdl_10_ok 15 rfl
theorem wd_410 : Cond.static yJ6_bitCount_0f7a4 ∈ ax_WS := ax_wl ax_tm2 wdl_10_ok 16 rfl
theorem wd_411 : Cond.code yJ6_bitCount_0f7a4 cJ6_bitCount_0f7a4 1 (some .int) ∈ ax_WS := ax_wl ax_tm2 wdl_10_ok 17 rfl
theorem wd_412 : Cond.constant RJ6 265 (1431655765) ∈ ax_WS := ax_wl ax_tm2 wdl_10_ok 18 rfl
theorem wd_413 : Cond.constant RJ6 266 (858993459) ∈ ax_WS := ax_wl ax_tm2 wdl_10_ok 19 rfl
theorem wd_414 : Cond.constant RJ6 267 (252645135) ∈ ax_WS := ax_wl ax_tm2 wdl_10_ok 20 rfl
theorem wd_415 : Cond.methodLink RL 45 yX9_input ∈ ax_WS := ax_wl ax_tm2 wdl_10_ok 21 rfl
theorem wd_416 : Cond.instanceMethod yX9_input ∈ ax_WS := ax_wl ax_tm2 wdl_10_ok 22 rfl
theorem wd_417 : Cond.selects RX9 yX9_input yX9_input ∈ ax_WS := ax_wl ax_tm2 wdl_10_ok 23 rfl
theorem wd_418 : Cond.code yX9_input cX9_input 3 (some .int) ∈ ax_WS := ax_wl ax_tm2 wdl_10_ok 24 rfl
theorem wd_419 : Cond.methodLink RL 49 yX9_parameter ∈ ax_WS := ax_wl ax_tm2 wdl_10_ok 25 rfl
theorem wd_420 : Cond.instanceMethod yX9_parameter ∈ ax_WS := ax_wl ax_tm2 wdl_10_ok 26 rfl
theorem wd_421 : Cond.selects RX9 yX9_parameter yX9_parameter ∈ ax_WS := ax_wl ax_tm2 wdl_10_ok 27 rfl
theorem wd_422 : Cond.code yX9_parameter cX9_parameter 3 (some .int) ∈ ax_WS := ax_wl ax_tm2 wdl_10_ok 28 rfl
theorem wd_423 : Cond.methodLink RL 53 yX9_value ∈ ax_WS := ax_wl ax_tm2 wdl_10_ok 29 rfl
def wdl_11 : List Cond := [Cond.instanceMethod yX9_value, Cond.selects RX9 yX9_value yX9_value, Cond.code yX9_value cX9_value 7 (some .int), Cond.methodLink RX9 133 yX9_isChannel, Cond.static yX9_isChannel, Cond.code yX9_isChannel cX9_isChannel 1 (some .boolean), Cond.methodLink RX9 136 yX9_ask, Cond.instanceMethod yX9_ask, Cond.code yX9_ask cX9_ask 11 (some (.array .int)), Cond.methodLink RX9 170 yX0_find, Cond.instanceMethod yX0_find, Cond.selects RX0 yX0_find yX0_find, Cond.code yX0_find cX0_find 5 (some (.object "GradeGraph$Picture")), Cond.methodLink RX9 260 yX0_hit, Cond.instanceMethod yX0_hit, Cond.selects RX0 yX0_hit yX0_hit, Cond.code yX0_hit cX0_hit 2 none, Cond.methodLink RX0 34 yX0_touch, Cond.instanceMethod yX0_touch, Cond.code yX0_touch cX0_touch 2 none, Cond.methodLink RX9 269 yX0_admit, Cond.instanceMethod yX0_admit, Cond.selects RX0 yX0_admit yX0_admit, Cond.code yX0_admit cX0_admit 4 (some (.object "GradeGraph$Picture")), Cond.methodLink RX0 41 yX0_dropOldest, Cond.instanceMethod yX0_dropOldest, Cond.code yX0_dropOldest cX0_dropOldest 3 none, Cond.methodLink RX9 272 yX4_paint, Cond.static yX4_paint, Cond.code yX4_paint cX4_paint 6 none]
theorem wdl_11_ok : wdl_11.all goodWord = true ∧ [133, 134, 135, 136, 137, 138, 139, 141, 142, 143, 144, 145, 146, 147, 148, 149, 150, 151, 153, 154, 155, 156, 157, 158, 159, 161, 162, 163, 164, 165].map (fun i => tables_1_2[i]?) = wdl_11.map some := by decide +kernel
theorem wd_424 : Cond.instanceMethod yX9_value ∈ ax_WS := ax_wl ax_tm2 wdl_11_ok 0 rfl
theorem wd_425 : Cond.selects RX9 yX9_value yX9_value ∈ ax_WS := ax_wl ax_tm2 wdl_11_ok 1 rfl
theorem wd_426 : Cond.code yX9_value cX9_value 7 (some .int) ∈ ax_WS := ax_wl ax_tm2 wdl_11_ok 2 rfl
theorem wd_427 : Cond.methodLink RX9 133 yX9_isChannel ∈ ax_WS := ax_wl ax_tm2 wdl_11_ok 3 rfl
theorem wd_428 : Cond.static yX9_isChannel ∈ ax_WS := ax_wl ax_tm2 wdl_11_ok 4 rfl
theorem wd_429 : Cond.code yX9_isChannel cX9_isChannel 1 (some .boolean) ∈ ax_WS := ax_wl ax_tm2 wdl_11_ok 5 rfl
theorem wd_430 : Cond.methodLink RX9 136 yX9_ask ∈ ax_WS := ax_wl ax_tm2 wdl_11_ok 6 rfl
theorem wd_432 : Cond.instanceMethod yX9_ask ∈ ax_WS := ax_wl ax_tm2 wdl_11_ok 7 rfl
theorem wd_433 : Cond.code yX9_ask cX9_ask 11 (some (.array .int)) ∈ ax_WS := ax_wl ax_tm2 wdl_11_ok 8 rfl
theorem wd_434 : Cond.methodLink RX9 170 yX0_find ∈ ax_WS := ax_wl ax_tm2 wdl_11_ok 9 rfl
theorem wd_435 : Cond.instanceMethod yX0_find ∈ ax_WS := ax_wl ax_tm2 wdl_11_ok 10 rfl
theorem wd_436 : Cond.selects RX0 yX0_find yX0_find ∈ ax_WS := ax_wl ax_tm2 wdl_11_ok 11 rfl
theorem wd_437 : Cond.code yX0_find cX0_find 5 (some (.object "GradeGraph$Picture")) ∈ ax_WS := ax_wl ax_tm2 wdl_11_ok 12 rfl
theorem wd_438 : Cond.methodLink RX9 260 yX0_hit ∈ ax_WS := ax_wl ax_tm2 wdl_11_ok 13 rfl
theorem wd_439 : Cond.instanceMethod yX0_hit ∈ ax_WS := ax_wl ax_tm2 wdl_11_ok 14 rfl
theorem wd_440 : Cond.selects RX0 yX0_hit yX0_hit ∈ ax_WS := ax_wl ax_tm2 wdl_11_ok 15 rfl
theorem wd_441 : Cond.code yX0_hit cX0_hit 2 none ∈ ax_WS := ax_wl ax_tm2 wdl_11_ok 16 rfl
theorem wd_442 : Cond.methodLink RX0 34 yX0_touch ∈ ax_WS := ax_wl ax_tm2 wdl_11_ok 17 rfl
theorem wd_444 : Cond.instanceMethod yX0_touch ∈ ax_WS := ax_wl ax_tm2 wdl_11_ok 18 rfl
theorem wd_445 : Cond.code yX0_touch cX0_touch 2 none ∈ ax_WS := ax_wl ax_tm2 wdl_11_ok 19 rfl
theorem wd_446 : Cond.methodLink RX9 269 yX0_admit ∈ ax_WS := ax_wl ax_tm2 wdl_11_ok 20 rfl
theorem wd_447 : Cond.instanceMethod yX0_admit ∈ ax_WS := ax_wl ax_tm2 wdl_11_ok 21 rfl
theorem wd_448 : Cond.selects RX0 yX0_admit yX0_admit ∈ ax_WS := ax_wl ax_tm2 wdl_11_ok 22 rfl
theorem wd_449 : Cond.code yX0_admit cX0_admit 4 (some (.object "GradeGraph$Picture")) ∈ ax_WS := ax_wl ax_tm2 wdl_11_ok 23 rfl
theorem wd_450 : Cond.methodLink RX0 41 yX0_dropOldest ∈ ax_WS := ax_wl ax_tm2 wdl_11_ok 24 rfl
theorem wd_452 : Cond.instanceMethod yX0_dropOldest ∈ ax_WS := ax_wl ax_tm2 wdl_11_ok 25 rfl
theorem wd_453 : Cond.code yX0_dropOldest cX0_dropOldest 3 none ∈ ax_WS := ax_wl ax_tm2 wdl_11_ok 26 rfl
theorem wd_454 : Cond.methodLink RX9 272 yX4_paint ∈ ax_WS := ax_wl ax_tm2 wdl_11_ok 27 rfl
theorem wd_455 : Cond.static yX4_paint ∈ ax_WS := ax_wl ax_tm2 wdl_11_ok 28 rfl
theorem wd_456 : Cond.code yX4_paint cX4_paint 6 none ∈ ax_WS := ax_wl ax_tm2 wdl_11_ok 29 rfl
def wdl_12 : List Cond := [Cond.methodLink RX4 19 yX4_paintSource, Cond.static yX4_paintSource, Cond.code yX4_paintSource cX4_paintSource 8 none, Cond.methodLink RX4 25 yX4_paintAmounts, Cond.static yX4_paintAmounts, Cond.code yX4_paintAmounts cX4_paintAmounts 6 none, Cond.methodLink RX4 45 Lib.Math.min.name, Cond.static Lib.Math.min.name, Cond.code Lib.Math.min.name Lib.Math.min.code 2 (some .int), Cond.methodLink RX4 51 Lib.Math.max.name, Cond.methodLink RX4 29 yX4_paintInverse, Cond.static yX4_paintInverse, Cond.code yX4_paintInverse cX4_paintInverse 3 none, Cond.methodLink RX4 33 yX4_paintBlur, Cond.static yX4_paintBlur, Cond.code yX4_paintBlur cX4_paintBlur 10 none, Cond.methodLink RX4 37 yX4_paintKey, Cond.static yX4_paintKey, Cond.code yX4_paintKey cX4_paintKey 7 none, Cond.methodLink RX4 54 yX4_mask, Cond.static yX4_mask, Cond.code yX4_mask cX4_mask 5 (some .int), Cond.methodLink RX4 41 yX4_paintBlend, Cond.static yX4_paintBlend, Cond.code yX4_paintBlend cX4_paintBlend 6 none, Cond.methodLink RX9 278 arraycopyName, Cond.static arraycopyName, Cond.native arraycopyName, Cond.methodLink RL 58 yX9_scope, Cond.instanceMethod yX9_scope]
theorem wdl_12_ok : wdl_12.all goodWord = true ∧ [166, 167, 168, 169, 170, 171, 172, 173, 174, 175, 176, 177, 178, 179, 180, 181, 182, 183, 184, 185, 186, 187, 188, 189, 190, 191, 192, 193, 194, 195].map (fun i => tables_1_2[i]?) = wdl_12.map some := by decide +kernel
theorem wd_457 : Cond.methodLink RX4 19 yX4_paintSource ∈ ax_WS := ax_wl ax_tm2 wdl_12_ok 0 rfl
theorem wd_458 : Cond.static yX4_paintSource ∈ ax_WS := ax_wl ax_tm2 wdl_12_ok 1 rfl
theorem wd_459 : Cond.code yX4_paintSource cX4_paintSource 8 none ∈ ax_WS := ax_wl ax_tm2 wdl_12_ok 2 rfl
theorem wd_460 : Cond.methodLink RX4 25 yX4_paintAmounts ∈ ax_WS := ax_wl ax_tm2 wdl_12_ok 3 rfl
theorem wd_461 : Cond.static yX4_paintAmounts ∈ ax_WS := ax_wl ax_tm2 wdl_12_ok 4 rfl
theorem wd_462 : Cond.code yX4_paintAmounts cX4_paintAmounts 6 none ∈ ax_WS := ax_wl ax_tm2 wdl_12_ok 5 rfl
theorem wd_463 : Cond.methodLink RX4 45 Lib.Math.min.name ∈ ax_WS := ax_wl ax_tm2 wdl_12_ok 6 rfl
theorem wd_464 : Cond.static Lib.Math.min.name ∈ ax_WS := ax_wl ax_tm2 wdl_12_ok 7 rfl
theorem wd_465 : Cond.code Lib.Math.min.name Lib.Math.min.code 2 (some .int) ∈ ax_WS := ax_wl ax_tm2 wdl_12_ok 8 rfl
theorem wd_466 : Cond.methodLink RX4 51 Lib.Math.max.name ∈ ax_WS := ax_wl ax_tm2 wdl_12_ok 9 rfl
theorem wd_467 : Cond.methodLink RX4 29 yX4_paintInverse ∈ ax_WS := ax_wl ax_tm2 wdl_12_ok 10 rfl
theorem wd_468 : Cond.static yX4_paintInverse ∈ ax_WS := ax_wl ax_tm2 wdl_12_ok 11 rfl
theorem wd_469 : Cond.code yX4_paintInverse cX4_paintInverse 3 none ∈ ax_WS := ax_wl ax_tm2 wdl_12_ok 12 rfl
theorem wd_470 : Cond.methodLink RX4 33 yX4_paintBlur ∈ ax_WS := ax_wl ax_tm2 wdl_12_ok 13 rfl
theorem wd_471 : Cond.static yX4_paintBlur ∈ ax_WS := ax_wl ax_tm2 wdl_12_ok 14 rfl
theorem wd_472 : Cond.code yX4_paintBlur cX4_paintBlur 10 none ∈ ax_WS := ax_wl ax_tm2 wdl_12_ok 15 rfl
theorem wd_473 : Cond.methodLink RX4 37 yX4_paintKey ∈ ax_WS := ax_wl ax_tm2 wdl_12_ok 16 rfl
theorem wd_474 : Cond.static yX4_paintKey ∈ ax_WS := ax_wl ax_tm2 wdl_12_ok 17 rfl
theorem wd_475 : Cond.code yX4_paintKey cX4_paintKey 7 none ∈ ax_WS := ax_wl ax_tm2 wdl_12_ok 18 rfl
theorem wd_476 : Cond.methodLink RX4 54 yX4_mask ∈ ax_WS := ax_wl ax_tm2 wdl_12_ok 19 rfl
theorem wd_477 : Cond.static yX4_mask ∈ ax_WS := ax_wl ax_tm2 wdl_12_ok 20 rfl
theorem wd_478 : Cond.code yX4_mask cX4_mask 5 (some .int) ∈ ax_WS := ax_wl ax_tm2 wdl_12_ok 21 rfl
theorem wd_479 : Cond.methodLink RX4 41 yX4_paintBlend ∈ ax_WS := ax_wl ax_tm2 wdl_12_ok 22 rfl
theorem wd_480 : Cond.static yX4_paintBlend ∈ ax_WS := ax_wl ax_tm2 wdl_12_ok 23 rfl
theorem wd_481 : Cond.code yX4_paintBlend cX4_paintBlend 6 none ∈ ax_WS := ax_wl ax_tm2 wdl_12_ok 24 rfl
theorem wd_482 : Cond.methodLink RX9 278 arraycopyName ∈ ax_WS := ax_wl ax_tm2 wdl_12_ok 25 rfl
theorem wd_483 : Cond.static arraycopyName ∈ ax_WS := ax_wl ax_tm2 wdl_12_ok 26 rfl
theorem wd_484 : Cond.native arraycopyName ∈ ax_WS := ax_wl ax_tm2 wdl_12_ok 27 rfl
theorem wd_485 : Cond.methodLink RL 58 yX9_scope ∈ ax_WS := ax_wl ax_tm2 wdl_12_ok 28 rfl
theorem wd_486 : Cond.instanceMethod yX9_scope ∈ ax_WS := ax_wl ax_tm2 wdl_12_ok 29 rfl
def wdl_13 : List Cond := [Cond.selects RX9 yX9_scope yX9_scope, Cond.code yX9_scope cX9_scope 6 (some .int), Cond.methodLink RX9 140 yX7_inPart, Cond.static yX7_inPart, Cond.code yX7_inPart cX7_inPart 6 (some .int), Cond.methodLink RL 63 yX9_sum, Cond.instanceMethod yX9_sum, Cond.selects RX9 yX9_sum yX9_sum, Cond.code yX9_sum cX9_sum 6 (some .int), Cond.methodLink RX9 146 yX7_least, Cond.static yX7_least, Cond.code yX7_least cX7_least 5 (some .int), Cond.methodLink RX7 9 Lib.Math.min.name, Cond.methodLink RX9 150 yX7_greatest, Cond.static yX7_greatest, Cond.code yX7_greatest cX7_greatest 5 (some .int), Cond.methodLink RX7 15 Lib.Math.max.name, Cond.methodLink RX9 153 yX7_total, Cond.static yX7_total, Cond.code yX7_total cX7_total 5 (some .int), Cond.methodLink RX9 156 yX7_different, Cond.static yX7_different, Cond.code yX7_different cX7_different 5 (some .int), Cond.methodLink RX7 18 yX7_standsBefore, Cond.static yX7_standsBefore, Cond.code yX7_standsBefore cX7_standsBefore 4 (some .boolean), Cond.methodLink RL 67 yX9_compare, Cond.instanceMethod yX9_compare, Cond.selects RX9 yX9_compare yX9_compare, Cond.code yX9_compare cX9_compare 6 (some .int)]
theorem wdl_13_ok : wdl_13.all goodWord = true ∧ [196, 197, 198, 199, 200, 201, 202, 203, 204, 205, 206, 207, 208, 209, 210, 211, 212, 213, 214, 215, 216, 217, 218, 219, 220, 221, 222, 223, 224, 225].map (fun i => tables_1_2[i]?) = wdl_13.map some := by decide +kernel
theorem wd_487 : Cond.selects RX9 yX9_scope yX9_scope ∈ ax_WS := ax_wl ax_tm2 wdl_13_ok 0 rfl
theorem wd_488 : Cond.code yX9_scope cX9_scope 6 (some .int) ∈ ax_WS := ax_wl ax_tm2 wdl_13_ok 1 rfl
theorem wd_489 : Cond.methodLink RX9 140 yX7_inPart ∈ ax_WS := ax_wl ax_tm2 wdl_13_ok 2 rfl
theorem wd_490 : Cond.static yX7_inPart ∈ ax_WS := ax_wl ax_tm2 wdl_13_ok 3 rfl
theorem wd_491 : Cond.code yX7_inPart cX7_inPart 6 (some .int) ∈ ax_WS := ax_wl ax_tm2 wdl_13_ok 4 rfl
theorem wd_492 : Cond.methodLink RL 63 yX9_sum ∈ ax_WS := ax_wl ax_tm2 wdl_13_ok 5 rfl
theorem wd_493 : Cond.instanceMethod yX9_sum ∈ ax_WS := ax_wl ax_tm2 wdl_13_ok 6 rfl
theorem wd_494 : Cond.selects RX9 yX9_sum yX9_sum ∈ ax_WS := ax_wl ax_tm2 wdl_13_ok 7 rfl
theorem wd_495 : Cond.code yX9_sum cX9_sum 6 (some .int) ∈ ax_WS := ax_wl ax_tm2 wdl_13_ok 8 rfl
theorem wd_496 : Cond.methodLink RX9 146 yX7_least ∈ ax_WS := ax_wl ax_tm2 wdl_13_ok 9 rfl
theorem wd_497 : Cond.static yX7_least ∈ ax_WS := ax_wl ax_tm2 wdl_13_ok 10 rfl
theorem wd_498 : Cond.code yX7_least cX7_least 5 (some .int) ∈ ax_WS := ax_wl ax_tm2 wdl_13_ok 11 rfl
theorem wd_499 : Cond.methodLink RX7 9 Lib.Math.min.name ∈ ax_WS := ax_wl ax_tm2 wdl_13_ok 12 rfl
theorem wd_500 : Cond.methodLink RX9 150 yX7_greatest ∈ ax_WS := ax_wl ax_tm2 wdl_13_ok 13 rfl
theorem wd_501 : Cond.static yX7_greatest ∈ ax_WS := ax_wl ax_tm2 wdl_13_ok 14 rfl
theorem wd_502 : Cond.code yX7_greatest cX7_greatest 5 (some .int) ∈ ax_WS := ax_wl ax_tm2 wdl_13_ok 15 rfl
theorem wd_503 : Cond.methodLink RX7 15 Lib.Math.max.name ∈ ax_WS := ax_wl ax_tm2 wdl_13_ok 16 rfl
theorem wd_504 : Cond.methodLink RX9 153 yX7_total ∈ ax_WS := ax_wl ax_tm2 wdl_13_ok 17 rfl
theorem wd_505 : Cond.static yX7_total ∈ ax_WS := ax_wl ax_tm2 wdl_13_ok 18 rfl
theorem wd_506 : Cond.code yX7_total cX7_total 5 (some .int) ∈ ax_WS := ax_wl ax_tm2 wdl_13_ok 19 rfl
theorem wd_507 : Cond.methodLink RX9 156 yX7_different ∈ ax_WS := ax_wl ax_tm2 wdl_13_ok 20 rfl
theorem wd_508 : Cond.static yX7_different ∈ ax_WS := ax_wl ax_tm2 wdl_13_ok 21 rfl
theorem wd_509 : Cond.code yX7_different cX7_different 5 (some .int) ∈ ax_WS := ax_wl ax_tm2 wdl_13_ok 22 rfl
theorem wd_510 : Cond.methodLink RX7 18 yX7_standsBefore ∈ ax_WS := ax_wl ax_tm2 wdl_13_ok 23 rfl
theorem wd_511 : Cond.static yX7_standsBefore ∈ ax_WS := ax_wl ax_tm2 wdl_13_ok 24 rfl
theorem wd_512 : Cond.code yX7_standsBefore cX7_standsBefore 4 (some .boolean) ∈ ax_WS := ax_wl ax_tm2 wdl_13_ok 25 rfl
theorem wd_513 : Cond.methodLink RL 67 yX9_compare ∈ ax_WS := ax_wl ax_tm2 wdl_13_ok 26 rfl
theorem wd_514 : Cond.instanceMethod yX9_compare ∈ ax_WS := ax_wl ax_tm2 wdl_13_ok 27 rfl
theorem wd_515 : Cond.selects RX9 yX9_compare yX9_compare ∈ ax_WS := ax_wl ax_tm2 wdl_13_ok 28 rfl
theorem wd_516 : Cond.code yX9_compare cX9_compare 6 (some .int) ∈ ax_WS := ax_wl ax_tm2 wdl_13_ok 29 rfl
def wdl_14 : List Cond := [Cond.methodLink RX9 159 yX7_greatestDifference, Cond.static yX7_greatestDifference, Cond.code yX7_greatestDifference cX7_greatestDifference 4 (some .int), Cond.methodLink RX7 24 Lib.Math.abs.name, Cond.static Lib.Math.abs.name, Cond.code Lib.Math.abs.name Lib.Math.abs.code 1 (some .int), Cond.methodLink RL 71 yX9_setRoom, Cond.instanceMethod yX9_setRoom, Cond.selects RX9 yX9_setRoom yX9_setRoom, Cond.code yX9_setRoom cX9_setRoom 3 (some .int), Cond.methodLink RX9 166 yX0_changeRoom, Cond.instanceMethod yX0_changeRoom, Cond.selects RX0 yX0_changeRoom yX0_changeRoom, Cond.code yX0_changeRoom cX0_changeRoom 3 none]
theorem wdl_14_ok : wdl_14.all goodWord = true ∧ [226, 227, 228, 229, 230, 231, 232, 233, 234, 235, 236, 237, 238, 239].map (fun i => tables_1_2[i]?) = wdl_14.map some := by decide +kernel
theorem wd_517 : Cond.methodLink RX9 159 yX7_greatestDifference ∈ ax_WS := ax_wl ax_tm2 wdl_14_ok 0 rfl
theorem wd_518 : Cond.static yX7_greatestDifference ∈ ax_WS := ax_wl ax_tm2 wdl_14_ok 1 rfl
theorem wd_519 : Cond.code yX7_greatestDifference cX7_greatestDifference 4 (some .int) ∈ ax_WS := ax_wl ax_tm2 wdl_14_ok 2 rfl
theorem wd_520 : Cond.methodLink RX7 24 Lib.Math.abs.name ∈ ax_WS := ax_wl ax_tm2 wdl_14_ok 3 rfl
theorem wd_521 : Cond.static Lib.Math.abs.name ∈ ax_WS := ax_wl ax_tm2 wdl_14_ok 4 rfl
theorem wd_522 : Cond.code Lib.Math.abs.name Lib.Math.abs.code 1 (some .int) ∈ ax_WS := ax_wl ax_tm2 wdl_14_ok 5 rfl
theorem wd_523 : Cond.methodLink RL 71 yX9_setRoom ∈ ax_WS := ax_wl ax_tm2 wdl_14_ok 6 rfl
theorem wd_524 : Cond.instanceMethod yX9_setRoom ∈ ax_WS := ax_wl ax_tm2 wdl_14_ok 7 rfl
theorem wd_525 : Cond.selects RX9 yX9_setRoom yX9_setRoom ∈ ax_WS := ax_wl ax_tm2 wdl_14_ok 8 rfl
theorem wd_526 : Cond.code yX9_setRoom cX9_setRoom 3 (some .int) ∈ ax_WS := ax_wl ax_tm2 wdl_14_ok 9 rfl
theorem wd_527 : Cond.methodLink RX9 166 yX0_changeRoom ∈ ax_WS := ax_wl ax_tm2 wdl_14_ok 10 rfl
theorem wd_528 : Cond.instanceMethod yX0_changeRoom ∈ ax_WS := ax_wl ax_tm2 wdl_14_ok 11 rfl
theorem wd_529 : Cond.selects RX0 yX0_changeRoom yX0_changeRoom ∈ ax_WS := ax_wl ax_tm2 wdl_14_ok 12 rfl
theorem wd_530 : Cond.code yX0_changeRoom cX0_changeRoom 3 none ∈ ax_WS := ax_wl ax_tm2 wdl_14_ok 13 rfl
def wdl_15 : List Cond := [Cond.methodLink RL 75 yX9_isCached, Cond.instanceMethod yX9_isCached, Cond.selects RX9 yX9_isCached yX9_isCached, Cond.code yX9_isCached cX9_isCached 3 (some .int), Cond.methodLink RL 79 yX9_count, Cond.instanceMethod yX9_count, Cond.selects RX9 yX9_count yX9_count, Cond.code yX9_count cX9_count 2 (some .int), Cond.methodLink RL 83 yX9_append, Cond.instanceMethod yX9_append, Cond.selects RX9 yX9_append yX9_append, Cond.code yX9_append cX9_append 2 (some .int), Cond.methodLink RX9 191 yX8_put, Cond.instanceMethod yX8_put, Cond.selects RX8 yX8_put yX8_put, Cond.code yX8_put cX8_put 2 (some .int), Cond.methodLink RL 87 yX9_clearText, Cond.instanceMethod yX9_clearText, Cond.selects RX9 yX9_clearText yX9_clearText, Cond.code yX9_clearText cX9_clearText 2 (some .int), Cond.methodLink RX9 199 yX8_empty, Cond.instanceMethod yX8_empty, Cond.selects RX8 yX8_empty yX8_empty, Cond.code yX8_empty cX8_empty 1 none, Cond.methodLink RL 91 yX9_faultPosition, Cond.instanceMethod yX9_faultPosition, Cond.selects RX9 yX9_faultPosition yX9_faultPosition, Cond.code yX9_faultPosition cX9_faultPosition 1 (some .int), Cond.methodLink RX9 200 yX6_read, Cond.instanceMethod yX6_read]
theorem wdl_15_ok : wdl_15.all goodWord = true ∧ [0, 1, 2, 3, 4, 5, 6, 7, 8, 9, 10, 11, 12, 13, 14, 15, 16, 17, 18, 19, 20, 21, 22, 23, 24, 25, 26, 27, 28, 29].map (fun i => tables_1_3[i]?) = wdl_15.map some := by decide +kernel
theorem wd_531 : Cond.methodLink RL 75 yX9_isCached ∈ ax_WS := ax_wl ax_tm3 wdl_15_ok 0 rfl
theorem wd_532 : Cond.instanceMethod yX9_isCached ∈ ax_WS := ax_wl ax_tm3 wdl_15_ok 1 rfl
theorem wd_533 : Cond.selects RX9 yX9_isCached yX9_isCached ∈ ax_WS := ax_wl ax_tm3 wdl_15_ok 2 rfl
theorem wd_534 : Cond.code yX9_isCached cX9_isCached 3 (some .int) ∈ ax_WS := ax_wl ax_tm3 wdl_15_ok 3 rfl
theorem wd_535 : Cond.methodLink RL 79 yX9_count ∈ ax_WS := ax_wl ax_tm3 wdl_15_ok 4 rfl
theorem wd_536 : Cond.instanceMethod yX9_count ∈ ax_WS := ax_wl ax_tm3 wdl_15_ok 5 rfl
theorem wd_537 : Cond.selects RX9 yX9_count yX9_count ∈ ax_WS := ax_wl ax_tm3 wdl_15_ok 6 rfl
theorem wd_538 : Cond.code yX9_count cX9_count 2 (some .int) ∈ ax_WS := ax_wl ax_tm3 wdl_15_ok 7 rfl
theorem wd_539 : Cond.methodLink RL 83 yX9_append ∈ ax_WS := ax_wl ax_tm3 wdl_15_ok 8 rfl
theorem wd_540 : Cond.instanceMethod yX9_append ∈ ax_WS := ax_wl ax_tm3 wdl_15_ok 9 rfl
theorem wd_541 : Cond.selects RX9 yX9_append yX9_append ∈ ax_WS := ax_wl ax_tm3 wdl_15_ok 10 rfl
theorem wd_542 : Cond.code yX9_append cX9_append 2 (some .int) ∈ ax_WS := ax_wl ax_tm3 wdl_15_ok 11 rfl
theorem wd_543 : Cond.methodLink RX9 191 yX8_put ∈ ax_WS := ax_wl ax_tm3 wdl_15_ok 12 rfl
theorem wd_544 : Cond.instanceMethod yX8_put ∈ ax_WS := ax_wl ax_tm3 wdl_15_ok 13 rfl
theorem wd_545 : Cond.selects RX8 yX8_put yX8_put ∈ ax_WS := ax_wl ax_tm3 wdl_15_ok 14 rfl
theorem wd_546 : Cond.code yX8_put cX8_put 2 (some .int) ∈ ax_WS := ax_wl ax_tm3 wdl_15_ok 15 rfl
theorem wd_547 : Cond.methodLink RL 87 yX9_clearText ∈ ax_WS := ax_wl ax_tm3 wdl_15_ok 16 rfl
theorem wd_548 : Cond.instanceMethod yX9_clearText ∈ ax_WS := ax_wl ax_tm3 wdl_15_ok 17 rfl
theorem wd_549 : Cond.selects RX9 yX9_clearText yX9_clearText ∈ ax_WS := ax_wl ax_tm3 wdl_15_ok 18 rfl
theorem wd_550 : Cond.code yX9_clearText cX9_clearText 2 (some .int) ∈ ax_WS := ax_wl ax_tm3 wdl_15_ok 19 rfl
theorem wd_551 : Cond.methodLink RX9 199 yX8_empty ∈ ax_WS := ax_wl ax_tm3 wdl_15_ok 20 rfl
theorem wd_552 : Cond.instanceMethod yX8_empty ∈ ax_WS := ax_wl ax_tm3 wdl_15_ok 21 rfl
theorem wd_553 : Cond.selects RX8 yX8_empty yX8_empty ∈ ax_WS := ax_wl ax_tm3 wdl_15_ok 22 rfl
theorem wd_554 : Cond.code yX8_empty cX8_empty 1 none ∈ ax_WS := ax_wl ax_tm3 wdl_15_ok 23 rfl
theorem wd_555 : Cond.methodLink RL 91 yX9_faultPosition ∈ ax_WS := ax_wl ax_tm3 wdl_15_ok 24 rfl
theorem wd_556 : Cond.instanceMethod yX9_faultPosition ∈ ax_WS := ax_wl ax_tm3 wdl_15_ok 25 rfl
theorem wd_557 : Cond.selects RX9 yX9_faultPosition yX9_faultPosition ∈ ax_WS := ax_wl ax_tm3 wdl_15_ok 26 rfl
theorem wd_558 : Cond.code yX9_faultPosition cX9_faultPosition 1 (some .int) ∈ ax_WS := ax_wl ax_tm3 wdl_15_ok 27 rfl
theorem wd_559 : Cond.methodLink RX9 200 yX6_read ∈ ax_WS := ax_wl ax_tm3 wdl_15_ok 28 rfl
theorem wd_560 : Cond.instanceMethod yX6_read ∈ ax_WS := ax_wl ax_tm3 wdl_15_ok 29 rfl
def wdl_16 : List Cond := [Cond.selects RX6 yX6_read yX6_read, Cond.code yX6_read cX6_read 3 (some .int), Cond.methodLink RX6 43 yX6_expression, Cond.instanceMethod yX6_expression, Cond.code yX6_expression cX6_expression 4 (some .int), Cond.methodLink RX6 50 yX6_kindHere, Cond.instanceMethod yX6_kindHere, Cond.code yX6_kindHere cX6_kindHere 3 (some .int), Cond.methodLink RX6 65 yX8_at, Cond.instanceMethod yX8_at, Cond.selects RX8 yX8_at yX8_at, Cond.code yX8_at cX8_at 2 (some .int), Cond.methodLink RX6 70 yJ0_indexOf_0f7a4, Cond.instanceMethod yJ0_indexOf_0f7a4, Cond.selects RJ0 yJ0_indexOf_0f7a4 yJ0_indexOf_0f7a4, Cond.code yJ0_indexOf_0f7a4 cJ0_indexOf_0f7a4 2 (some .int), Cond.methodLink RJ0 633 yJ0_indexOf_7cf53, Cond.instanceMethod yJ0_indexOf_7cf53, Cond.selects RJ0 yJ0_indexOf_7cf53 yJ0_indexOf_7cf53, Cond.code yJ0_indexOf_7cf53 cJ0_indexOf_7cf53 3 (some .int), Cond.methodLink RJ0 492 yJ0_isLatin1_aae02, Cond.instanceMethod yJ0_isLatin1_aae02, Cond.selects RJ0 yJ0_isLatin1_aae02 yJ0_isLatin1_aae02, Cond.code yJ0_isLatin1_aae02 cJ0_isLatin1_aae02 1 (some .boolean), Cond.fieldLink RJ0 38 RJ0 "COMPACT_STRINGS" "Z", Cond.methodLink RJ0 505 yJ0_length_8abf5, Cond.instanceMethod yJ0_length_8abf5, Cond.selects RJ0 yJ0_length_8abf5 yJ0_length_8abf5, Cond.code yJ0_length_8abf5 cJ0_length_8abf5 1 (some .int), Cond.methodLink RJ0 335 yJ0_coder_7d493]
theorem wdl_16_ok : wdl_16.all goodWord = true ∧ [30, 31, 32, 34, 35, 36, 38, 39, 40, 41, 42, 43, 46, 47, 48, 49, 50, 51, 52, 53, 54, 55, 56, 57, 58, 60, 61, 62, 63, 64].map (fun i => tables_1_3[i]?) = wdl_16.map some := by decide +kernel
theorem wd_561 : Cond.selects RX6 yX6_read yX6_read ∈ ax_WS := ax_wl ax_tm3 wdl_16_ok 0 rfl
theorem wd_562 : Cond.code yX6_read cX6_read 3 (some .int) ∈ ax_WS := ax_wl ax_tm3 wdl_16_ok 1 rfl
theorem wd_563 : Cond.methodLink RX6 43 yX6_expression ∈ ax_WS := ax_wl ax_tm3 wdl_16_ok 2 rfl
theorem wd_565 : Cond.instanceMethod yX6_expression ∈ ax_WS := ax_wl ax_tm3 wdl_16_ok 3 rfl
theorem wd_566 : Cond.code yX6_expression cX6_expression 4 (some .int) ∈ ax_WS := ax_wl ax_tm3 wdl_16_ok 4 rfl
theorem wd_567 : Cond.methodLink RX6 50 yX6_kindHere ∈ ax_WS := ax_wl ax_tm3 wdl_16_ok 5 rfl
theorem wd_569 : Cond.instanceMethod yX6_kindHere ∈ ax_WS := ax_wl ax_tm3 wdl_16_ok 6 rfl
theorem wd_570 : Cond.code yX6_kindHere cX6_kindHere 3 (some .int) ∈ ax_WS := ax_wl ax_tm3 wdl_16_ok 7 rfl
theorem wd_571 : Cond.methodLink RX6 65 yX8_at ∈ ax_WS := ax_wl ax_tm3 wdl_16_ok 8 rfl
theorem wd_572 : Cond.instanceMethod yX8_at ∈ ax_WS := ax_wl ax_tm3 wdl_16_ok 9 rfl
theorem wd_573 : Cond.selects RX8 yX8_at yX8_at ∈ ax_WS := ax_wl ax_tm3 wdl_16_ok 10 rfl
theorem wd_574 : Cond.code yX8_at cX8_at 2 (some .int) ∈ ax_WS := ax_wl ax_tm3 wdl_16_ok 11 rfl
theorem wd_577 : Cond.methodLink RX6 70 yJ0_indexOf_0f7a4 ∈ ax_WS := ax_wl ax_tm3 wdl_16_ok 12 rfl
theorem wd_578 : Cond.instanceMethod yJ0_indexOf_0f7a4 ∈ ax_WS := ax_wl ax_tm3 wdl_16_ok 13 rfl
theorem wd_579 : Cond.selects RJ0 yJ0_indexOf_0f7a4 yJ0_indexOf_0f7a4 ∈ ax_WS := ax_wl ax_tm3 wdl_16_ok 14 rfl
theorem wd_580 : Cond.code yJ0_indexOf_0f7a4 cJ0_indexOf_0f7a4 2 (some .int) ∈ ax_WS := ax_wl ax_tm3 wdl_16_ok 15 rfl
theorem wd_581 : Cond.methodLink RJ0 633 yJ0_indexOf_7cf53 ∈ ax_WS := ax_wl ax_tm3 wdl_16_ok 16 rfl
theorem wd_582 : Cond.instanceMethod yJ0_indexOf_7cf53 ∈ ax_WS := ax_wl ax_tm3 wdl_16_ok 17 rfl
theorem wd_583 : Cond.selects RJ0 yJ0_indexOf_7cf53 yJ0_indexOf_7cf53 ∈ ax_WS := ax_wl ax_tm3 wdl_16_ok 18 rfl
theorem wd_584 : Cond.code yJ0_indexOf_7cf53 cJ0_indexOf_7cf53 3 (some .int) ∈ ax_WS := ax_wl ax_tm3 wdl_16_ok 19 rfl
theorem wd_585 : Cond.methodLink RJ0 492 yJ0_isLatin1_aae02 ∈ ax_WS := ax_wl ax_tm3 wdl_16_ok 20 rfl
theorem wd_586 : Cond.instanceMethod yJ0_isLatin1_aae02 ∈ ax_WS := ax_wl ax_tm3 wdl_16_ok 21 rfl
theorem wd_587 : Cond.selects RJ0 yJ0_isLatin1_aae02 yJ0_isLatin1_aae02 ∈ ax_WS := ax_wl ax_tm3 wdl_16_ok 22 rfl
theorem wd_588 : Cond.code yJ0_isLatin1_aae02 cJ0_isLatin1_aae02 1 (some .boolean) ∈ ax_WS := ax_wl ax_tm3 wdl_16_ok 23 rfl
theorem wd_589 : Cond.fieldLink RJ0 38 RJ0 "COMPACT_STRINGS" "Z" ∈ ax_WS := ax_wl ax_tm3 wdl_16_ok 24 rfl
theorem wd_591 : Cond.methodLink RJ0 505 yJ0_length_8abf5 ∈ ax_WS := ax_wl ax_tm3 wdl_16_ok 25 rfl
theorem wd_592 : Cond.instanceMethod yJ0_length_8abf5 ∈ ax_WS := ax_wl ax_tm3 wdl_16_ok 26 rfl
theorem wd_593 : Cond.selects RJ0 yJ0_length_8abf5 yJ0_length_8abf5 ∈ ax_WS := ax_wl ax_tm3 wdl_16_ok 27 rfl
theorem wd_594 : Cond.code yJ0_length_8abf5 cJ0_length_8abf5 1 (some .int) ∈ ax_WS := ax_wl ax_tm3 wdl_16_ok 28 rfl
theorem wd_595 : Cond.methodLink RJ0 335 yJ0_coder_7d493 ∈ ax_WS := ax_wl ax_tm3 wdl_16_ok 29 rfl
def wdl_17 : List Cond := [Cond.instanceMethod yJ0_coder_7d493, Cond.selects RJ0 yJ0_coder_7d493 yJ0_coder_7d493, Cond.code yJ0_coder_7d493 cJ0_coder_7d493 1 (some .byte), Cond.methodLink RJ0 637 yJ1_indexOf_4cfef, Cond.static yJ1_indexOf_4cfef, Cond.code yJ1_indexOf_4cfef cJ1_indexOf_4cfef 4 (some .int), Cond.methodLink RJ1 88 yJ1_canEncode_9a6ad, Cond.static yJ1_canEncode_9a6ad, Cond.code yJ1_canEncode_9a6ad cJ1_canEncode_9a6ad 1 (some .boolean), Cond.methodLink RJ1 92 Lib.Math.max.name, Cond.methodLink RJ1 38 Lib.Math.min.name, Cond.methodLink RJ1 95 yJ1_indexOfChar_4cfef, Cond.static yJ1_indexOfChar_4cfef, Cond.code yJ1_indexOfChar_4cfef cJ1_indexOfChar_4cfef 6 (some .int), Cond.methodLink RX6 54 yX6_expect, Cond.instanceMethod yX6_expect, Cond.code yX6_expect cX6_expect 2 none, Cond.methodLink RX6 58 yX6_readNumber, Cond.instanceMethod yX6_readNumber, Cond.code yX6_readNumber cX6_readNumber 6 (some .int), Cond.methodLink RX6 105 yX6_readDigits, Cond.instanceMethod yX6_readDigits, Cond.code yX6_readDigits cX6_readDigits 5 (some .int), Cond.methodLink RX6 62 yX6_newNode, Cond.instanceMethod yX6_newNode, Cond.code yX6_newNode cX6_newNode 8 (some .int), Cond.methodLink RX6 75 yX2_inputs, Cond.methodLink RX6 80 yX6_nextExpression, Cond.instanceMethod yX6_nextExpression, Cond.code yX6_nextExpression cX6_nextExpression 2 (some .int)]
theorem wdl_17_ok : wdl_17.all goodWord = true ∧ [65, 66, 67, 68, 69, 70, 71, 72, 73, 74, 75, 76, 77, 78, 128, 130, 131, 132, 134, 135, 136, 138, 139, 141, 143, 144, 145, 146, 148, 149].map (fun i => tables_1_3[i]?) = wdl_17.map some := by decide +kernel
theorem wd_596 : Cond.instanceMethod yJ0_coder_7d493 ∈ ax_WS := ax_wl ax_tm3 wdl_17_ok 0 rfl
theorem wd_597 : Cond.selects RJ0 yJ0_coder_7d493 yJ0_coder_7d493 ∈ ax_WS := ax_wl ax_tm3 wdl_17_ok 1 rfl
theorem wd_598 : Cond.code yJ0_coder_7d493 cJ0_coder_7d493 1 (some .byte) ∈ ax_WS := ax_wl ax_tm3 wdl_17_ok 2 rfl
theorem wd_599 : Cond.methodLink RJ0 637 yJ1_indexOf_4cfef ∈ ax_WS := ax_wl ax_tm3 wdl_17_ok 3 rfl
theorem wd_600 : Cond.static yJ1_indexOf_4cfef ∈ ax_WS := ax_wl ax_tm3 wdl_17_ok 4 rfl
theorem wd_601 : Cond.code yJ1_indexOf_4cfef cJ1_indexOf_4cfef 4 (some .int) ∈ ax_WS := ax_wl ax_tm3 wdl_17_ok 5 rfl
theorem wd_602 : Cond.methodLink RJ1 88 yJ1_canEncode_9a6ad ∈ ax_WS := ax_wl ax_tm3 wdl_17_ok 6 rfl
theorem wd_603 : Cond.static yJ1_canEncode_9a6ad ∈ ax_WS := ax_wl ax_tm3 wdl_17_ok 7 rfl
theorem wd_604 : Cond.code yJ1_canEncode_9a6ad cJ1_canEncode_9a6ad 1 (some .boolean) ∈ ax_WS := ax_wl ax_tm3 wdl_17_ok 8 rfl
theorem wd_605 : Cond.methodLink RJ1 92 Lib.Math.max.name ∈ ax_WS := ax_wl ax_tm3 wdl_17_ok 9 rfl
theorem wd_606 : Cond.methodLink RJ1 38 Lib.Math.min.name ∈ ax_WS := ax_wl ax_tm3 wdl_17_ok 10 rfl
theorem wd_607 : Cond.methodLink RJ1 95 yJ1_indexOfChar_4cfef ∈ ax_WS := ax_wl ax_tm3 wdl_17_ok 11 rfl
theorem wd_608 : Cond.static yJ1_indexOfChar_4cfef ∈ ax_WS := ax_wl ax_tm3 wdl_17_ok 12 rfl
theorem wd_609 : Cond.code yJ1_indexOfChar_4cfef cJ1_indexOfChar_4cfef 6 (some .int) ∈ ax_WS := ax_wl ax_tm3 wdl_17_ok 13 rfl
theorem wd_659 : Cond.methodLink RX6 54 yX6_expect ∈ ax_WS := ax_wl ax_tm3 wdl_17_ok 14 rfl
theorem wd_661 : Cond.instanceMethod yX6_expect ∈ ax_WS := ax_wl ax_tm3 wdl_17_ok 15 rfl
theorem wd_662 : Cond.code yX6_expect cX6_expect 2 none ∈ ax_WS := ax_wl ax_tm3 wdl_17_ok 16 rfl
theorem wd_663 : Cond.methodLink RX6 58 yX6_readNumber ∈ ax_WS := ax_wl ax_tm3 wdl_17_ok 17 rfl
theorem wd_665 : Cond.instanceMethod yX6_readNumber ∈ ax_WS := ax_wl ax_tm3 wdl_17_ok 18 rfl
theorem wd_666 : Cond.code yX6_readNumber cX6_readNumber 6 (some .int) ∈ ax_WS := ax_wl ax_tm3 wdl_17_ok 19 rfl
theorem wd_667 : Cond.methodLink RX6 105 yX6_readDigits ∈ ax_WS := ax_wl ax_tm3 wdl_17_ok 20 rfl
theorem wd_669 : Cond.instanceMethod yX6_readDigits ∈ ax_WS := ax_wl ax_tm3 wdl_17_ok 21 rfl
theorem wd_670 : Cond.code yX6_readDigits cX6_readDigits 5 (some .int) ∈ ax_WS := ax_wl ax_tm3 wdl_17_ok 22 rfl
theorem wd_672 : Cond.methodLink RX6 62 yX6_newNode ∈ ax_WS := ax_wl ax_tm3 wdl_17_ok 23 rfl
theorem wd_674 : Cond.instanceMethod yX6_newNode ∈ ax_WS := ax_wl ax_tm3 wdl_17_ok 24 rfl
theorem wd_675 : Cond.code yX6_newNode cX6_newNode 8 (some .int) ∈ ax_WS := ax_wl ax_tm3 wdl_17_ok 25 rfl
theorem wd_676 : Cond.methodLink RX6 75 yX2_inputs ∈ ax_WS := ax_wl ax_tm3 wdl_17_ok 26 rfl
theorem wd_677 : Cond.methodLink RX6 80 yX6_nextExpression ∈ ax_WS := ax_wl ax_tm3 wdl_17_ok 27 rfl
theorem wd_679 : Cond.instanceMethod yX6_nextExpression ∈ ax_WS := ax_wl ax_tm3 wdl_17_ok 28 rfl
theorem wd_680 : Cond.code yX6_nextExpression cX6_nextExpression 2 (some .int) ∈ ax_WS := ax_wl ax_tm3 wdl_17_ok 29 rfl
def wdl_18 : List Cond := [Cond.methodLink RX6 83 yX2_numbers, Cond.static yX2_numbers, Cond.code yX2_numbers cX2_numbers 1 (some .int), Cond.fieldLink RX2 22 RX2 "NUMBERS" "[I", Cond.methodLink RX6 85 yX2_lowest, Cond.methodLink RX6 88 yX2_highest, Cond.methodLink RX6 91 yX6_fill, Cond.instanceMethod yX6_fill, Cond.code yX6_fill cX6_fill 8 none, Cond.methodLink RX6 95 yX3_reset, Cond.methodLink RX6 100 yX2_parameters, Cond.methodLink RL 95 yX9_faultDepth, Cond.instanceMethod yX9_faultDepth, Cond.selects RX9 yX9_faultDepth yX9_faultDepth, Cond.code yX9_faultDepth cX9_faultDepth 1 (some .int), Cond.methodLink RX9 210 yX8_openAhead, Cond.instanceMethod yX8_openAhead, Cond.selects RX8 yX8_openAhead yX8_openAhead, Cond.code yX8_openAhead cX8_openAhead 4 (some .int), Cond.methodLink RX8 23 yX8_at, Cond.methodLink RL 99 yX9_build, Cond.instanceMethod yX9_build, Cond.selects RX9 yX9_build yX9_build, Cond.code yX9_build cX9_build 2 (some .int), Cond.methodLink RX9 219 yX1_addAll, Cond.instanceMethod yX1_addAll, Cond.selects RX1 yX1_addAll yX1_addAll, Cond.code yX1_addAll cX1_addAll 4 none, Cond.methodLink RX1 69 yX3_copyFrom, Cond.instanceMethod yX3_copyFrom]
theorem wdl_18_ok : wdl_18.all goodWord = true ∧ [150, 151, 152, 153, 155, 156, 157, 159, 160, 161, 162, 163, 164, 165, 166, 167, 168, 169, 170, 171, 172, 173, 174, 175, 176, 177, 178, 179, 180, 181].map (fun i => tables_1_3[i]?) = wdl_18.map some := by decide +kernel
theorem wd_681 : Cond.methodLink RX6 83 yX2_numbers ∈ ax_WS := ax_wl ax_tm3 wdl_18_ok 0 rfl
theorem wd_682 : Cond.static yX2_numbers ∈ ax_WS := ax_wl ax_tm3 wdl_18_ok 1 rfl
theorem wd_683 : Cond.code yX2_numbers cX2_numbers 1 (some .int) ∈ ax_WS := ax_wl ax_tm3 wdl_18_ok 2 rfl
theorem wd_684 : Cond.fieldLink RX2 22 RX2 "NUMBERS" "[I" ∈ ax_WS := ax_wl ax_tm3 wdl_18_ok 3 rfl
theorem wd_686 : Cond.methodLink RX6 85 yX2_lowest ∈ ax_WS := ax_wl ax_tm3 wdl_18_ok 4 rfl
theorem wd_687 : Cond.methodLink RX6 88 yX2_highest ∈ ax_WS := ax_wl ax_tm3 wdl_18_ok 5 rfl
theorem wd_688 : Cond.methodLink RX6 91 yX6_fill ∈ ax_WS := ax_wl ax_tm3 wdl_18_ok 6 rfl
theorem wd_690 : Cond.instanceMethod yX6_fill ∈ ax_WS := ax_wl ax_tm3 wdl_18_ok 7 rfl
theorem wd_691 : Cond.code yX6_fill cX6_fill 8 none ∈ ax_WS := ax_wl ax_tm3 wdl_18_ok 8 rfl
theorem wd_692 : Cond.methodLink RX6 95 yX3_reset ∈ ax_WS := ax_wl ax_tm3 wdl_18_ok 9 rfl
theorem wd_693 : Cond.methodLink RX6 100 yX2_parameters ∈ ax_WS := ax_wl ax_tm3 wdl_18_ok 10 rfl
theorem wd_694 : Cond.methodLink RL 95 yX9_faultDepth ∈ ax_WS := ax_wl ax_tm3 wdl_18_ok 11 rfl
theorem wd_695 : Cond.instanceMethod yX9_faultDepth ∈ ax_WS := ax_wl ax_tm3 wdl_18_ok 12 rfl
theorem wd_696 : Cond.selects RX9 yX9_faultDepth yX9_faultDepth ∈ ax_WS := ax_wl ax_tm3 wdl_18_ok 13 rfl
theorem wd_697 : Cond.code yX9_faultDepth cX9_faultDepth 1 (some .int) ∈ ax_WS := ax_wl ax_tm3 wdl_18_ok 14 rfl
theorem wd_698 : Cond.methodLink RX9 210 yX8_openAhead ∈ ax_WS := ax_wl ax_tm3 wdl_18_ok 15 rfl
theorem wd_699 : Cond.instanceMethod yX8_openAhead ∈ ax_WS := ax_wl ax_tm3 wdl_18_ok 16 rfl
theorem wd_700 : Cond.selects RX8 yX8_openAhead yX8_openAhead ∈ ax_WS := ax_wl ax_tm3 wdl_18_ok 17 rfl
theorem wd_701 : Cond.code yX8_openAhead cX8_openAhead 4 (some .int) ∈ ax_WS := ax_wl ax_tm3 wdl_18_ok 18 rfl
theorem wd_702 : Cond.methodLink RX8 23 yX8_at ∈ ax_WS := ax_wl ax_tm3 wdl_18_ok 19 rfl
theorem wd_703 : Cond.methodLink RL 99 yX9_build ∈ ax_WS := ax_wl ax_tm3 wdl_18_ok 20 rfl
theorem wd_704 : Cond.instanceMethod yX9_build ∈ ax_WS := ax_wl ax_tm3 wdl_18_ok 21 rfl
theorem wd_705 : Cond.selects RX9 yX9_build yX9_build ∈ ax_WS := ax_wl ax_tm3 wdl_18_ok 22 rfl
theorem wd_706 : Cond.code yX9_build cX9_build 2 (some .int) ∈ ax_WS := ax_wl ax_tm3 wdl_18_ok 23 rfl
theorem wd_707 : Cond.methodLink RX9 219 yX1_addAll ∈ ax_WS := ax_wl ax_tm3 wdl_18_ok 24 rfl
theorem wd_708 : Cond.instanceMethod yX1_addAll ∈ ax_WS := ax_wl ax_tm3 wdl_18_ok 25 rfl
theorem wd_709 : Cond.selects RX1 yX1_addAll yX1_addAll ∈ ax_WS := ax_wl ax_tm3 wdl_18_ok 26 rfl
theorem wd_710 : Cond.code yX1_addAll cX1_addAll 4 none ∈ ax_WS := ax_wl ax_tm3 wdl_18_ok 27 rfl
theorem wd_711 : Cond.methodLink RX1 69 yX3_copyFrom ∈ ax_WS := ax_wl ax_tm3 wdl_18_ok 28 rfl
theorem wd_712 : Cond.instanceMethod yX3_copyFrom ∈ ax_WS := ax_wl ax_tm3 wdl_18_ok 29 rfl
def wdl_19 : List Cond := [Cond.selects RX3 yX3_copyFrom yX3_copyFrom, Cond.code yX3_copyFrom cX3_copyFrom 2 none, Cond.methodLink RX3 34 arraycopyName, Cond.methodLink RL 103 yX9_save, Cond.instanceMethod yX9_save, Cond.selects RX9 yX9_save yX9_save, Cond.code yX9_save cX9_save 2 (some .int), Cond.methodLink RX9 223 yX1_copyFrom, Cond.instanceMethod yX1_copyFrom, Cond.selects RX1 yX1_copyFrom yX1_copyFrom, Cond.code yX1_copyFrom cX1_copyFrom 2 none, Cond.methodLink RX1 65 yX1_addAll, Cond.methodLink RL 107 yX9_restore, Cond.instanceMethod yX9_restore, Cond.selects RX9 yX9_restore yX9_restore, Cond.code yX9_restore cX9_restore 2 (some .int), Cond.methodLink RL 111 yX9_checksum, Cond.instanceMethod yX9_checksum, Cond.selects RX9 yX9_checksum yX9_checksum, Cond.code yX9_checksum cX9_checksum 5 (some .long), Cond.constantLong RX9 227 (127), Cond.methodLink RX9 229 yX9_nodes, Cond.methodLink RX9 232 yX9_mix, Cond.static yX9_mix, Cond.code yX9_mix cX9_mix 3 (some .long), Cond.constantLong RX9 258 (31), Cond.methodLink RX9 236 yX9_mixNode, Cond.instanceMethod yX9_mixNode, Cond.code yX9_mixNode cX9_mixNode 8 (some .long), Cond.methodLink RX9 245 yX9_node]
theorem wdl_19_ok : wdl_19.all goodWord = true ∧ [182, 183, 184, 185, 186, 187, 188, 189, 190, 191, 192, 193, 194, 195, 196, 197, 198, 199, 200, 201, 202, 203, 204, 205, 206, 207, 208, 210, 211, 212].map (fun i => tables_1_3[i]?) = wdl_19.map some := by decide +kernel
theorem wd_713 : Cond.selects RX3 yX3_copyFrom yX3_copyFrom ∈ ax_WS := ax_wl ax_tm3 wdl_19_ok 0 rfl
theorem wd_714 : Cond.code yX3_copyFrom cX3_copyFrom 2 none ∈ ax_WS := ax_wl ax_tm3 wdl_19_ok 1 rfl
theorem wd_715 : Cond.methodLink RX3 34 arraycopyName ∈ ax_WS := ax_wl ax_tm3 wdl_19_ok 2 rfl
theorem wd_716 : Cond.methodLink RL 103 yX9_save ∈ ax_WS := ax_wl ax_tm3 wdl_19_ok 3 rfl
theorem wd_717 : Cond.instanceMethod yX9_save ∈ ax_WS := ax_wl ax_tm3 wdl_19_ok 4 rfl
theorem wd_718 : Cond.selects RX9 yX9_save yX9_save ∈ ax_WS := ax_wl ax_tm3 wdl_19_ok 5 rfl
theorem wd_719 : Cond.code yX9_save cX9_save 2 (some .int) ∈ ax_WS := ax_wl ax_tm3 wdl_19_ok 6 rfl
theorem wd_720 : Cond.methodLink RX9 223 yX1_copyFrom ∈ ax_WS := ax_wl ax_tm3 wdl_19_ok 7 rfl
theorem wd_721 : Cond.instanceMethod yX1_copyFrom ∈ ax_WS := ax_wl ax_tm3 wdl_19_ok 8 rfl
theorem wd_722 : Cond.selects RX1 yX1_copyFrom yX1_copyFrom ∈ ax_WS := ax_wl ax_tm3 wdl_19_ok 9 rfl
theorem wd_723 : Cond.code yX1_copyFrom cX1_copyFrom 2 none ∈ ax_WS := ax_wl ax_tm3 wdl_19_ok 10 rfl
theorem wd_724 : Cond.methodLink RX1 65 yX1_addAll ∈ ax_WS := ax_wl ax_tm3 wdl_19_ok 11 rfl
theorem wd_725 : Cond.methodLink RL 107 yX9_restore ∈ ax_WS := ax_wl ax_tm3 wdl_19_ok 12 rfl
theorem wd_726 : Cond.instanceMethod yX9_restore ∈ ax_WS := ax_wl ax_tm3 wdl_19_ok 13 rfl
theorem wd_727 : Cond.selects RX9 yX9_restore yX9_restore ∈ ax_WS := ax_wl ax_tm3 wdl_19_ok 14 rfl
theorem wd_728 : Cond.code yX9_restore cX9_restore 2 (some .int) ∈ ax_WS := ax_wl ax_tm3 wdl_19_ok 15 rfl
theorem wd_729 : Cond.methodLink RL 111 yX9_checksum ∈ ax_WS := ax_wl ax_tm3 wdl_19_ok 16 rfl
theorem wd_730 : Cond.instanceMethod yX9_checksum ∈ ax_WS := ax_wl ax_tm3 wdl_19_ok 17 rfl
theorem wd_731 : Cond.selects RX9 yX9_checksum yX9_checksum ∈ ax_WS := ax_wl ax_tm3 wdl_19_ok 18 rfl
theorem wd_732 : Cond.code yX9_checksum cX9_checksum 5 (some .long) ∈ ax_WS := ax_wl ax_tm3 wdl_19_ok 19 rfl
theorem wd_733 : Cond.constantLong RX9 227 (127) ∈ ax_WS := ax_wl ax_tm3 wdl_19_ok 20 rfl
theorem wd_734 : Cond.methodLink RX9 229 yX9_nodes ∈ ax_WS := ax_wl ax_tm3 wdl_19_ok 21 rfl
theorem wd_735 : Cond.methodLink RX9 232 yX9_mix ∈ ax_WS := ax_wl ax_tm3 wdl_19_ok 22 rfl
theorem wd_736 : Cond.static yX9_mix ∈ ax_WS := ax_wl ax_tm3 wdl_19_ok 23 rfl
theorem wd_737 : Cond.code yX9_mix cX9_mix 3 (some .long) ∈ ax_WS := ax_wl ax_tm3 wdl_19_ok 24 rfl
theorem wd_738 : Cond.constantLong RX9 258 (31) ∈ ax_WS := ax_wl ax_tm3 wdl_19_ok 25 rfl
theorem wd_739 : Cond.methodLink RX9 236 yX9_mixNode ∈ ax_WS := ax_wl ax_tm3 wdl_19_ok 26 rfl
theorem wd_741 : Cond.instanceMethod yX9_mixNode ∈ ax_WS := ax_wl ax_tm3 wdl_19_ok 27 rfl
theorem wd_742 : Cond.code yX9_mixNode cX9_mixNode 8 (some .long) ∈ ax_WS := ax_wl ax_tm3 wdl_19_ok 28 rfl
theorem wd_743 : Cond.methodLink RX9 245 yX9_node ∈ ax_WS := ax_wl ax_tm3 wdl_19_ok 29 rfl
def wdl_20 : List Cond := [Cond.methodLink RX9 248 yX2_inputs, Cond.methodLink RX9 250 yX9_input, Cond.methodLink RX9 253 yX2_parameters, Cond.methodLink RX9 255 yX9_parameter, Cond.methodLink RX9 239 yX9_count, Cond.methodLink RX9 242 yX9_isCached, Cond.classLink RL 10 RX10, Cond.instantiable RX10 28, Cond.methodLink RL 12 yX10_init, Cond.instanceMethod yX10_init, Cond.code yX10_init cX10_init 1 none, Cond.methodLink RX10 1 Lib.objectInit, Cond.fieldLink RX10 7 RX10 "v" "[I", Cond.fieldLink RX10 13 RX10 "kept" "[I", Cond.fieldLink RX10 16 RX10 "isKept" "[Z", Cond.fieldLink RX10 20 RX10 "room" "I", Cond.fieldLink RX10 85 RX10 "cached" "I", Cond.fieldLink RX10 24 RX10 "cacheNode" "[I", Cond.fieldLink RX10 27 RX10 "cacheFrame" "[I", Cond.fieldLink RX10 30 RX10 "cacheUse" "[I", Cond.fieldLink RX10 33 RX10 "pictures" "[I", Cond.fieldLink RX10 133 RX10 "uses" "I", Cond.fieldLink RX10 36 RX10 "counts" "[I", Cond.fieldLink RX10 39 RX10 "text" "[I", Cond.fieldLink RX10 190 RX10 "length" "I", Cond.fieldLink RX10 42 RX10 "inputMany" "[I", Cond.fieldLink RX10 45 RX10 "parameterMany" "[I"]
theorem wdl_20_ok : wdl_20.all goodWord = true ∧ [213, 214, 215, 216, 217, 218, 219, 220, 221, 222, 223, 224, 225, 226, 227, 228, 229, 230, 231, 232, 233, 234, 235, 236, 237, 238, 239].map (fun i => tables_1_3[i]?) = wdl_20.map some := by decide +kernel
theorem wd_744 : Cond.methodLink RX9 248 yX2_inputs ∈ ax_WS := ax_wl ax_tm3 wdl_20_ok 0 rfl
theorem wd_745 : Cond.methodLink RX9 250 yX9_input ∈ ax_WS := ax_wl ax_tm3 wdl_20_ok 1 rfl
theorem wd_746 : Cond.methodLink RX9 253 yX2_parameters ∈ ax_WS := ax_wl ax_tm3 wdl_20_ok 2 rfl
theorem wd_747 : Cond.methodLink RX9 255 yX9_parameter ∈ ax_WS := ax_wl ax_tm3 wdl_20_ok 3 rfl
theorem wd_748 : Cond.methodLink RX9 239 yX9_count ∈ ax_WS := ax_wl ax_tm3 wdl_20_ok 4 rfl
theorem wd_749 : Cond.methodLink RX9 242 yX9_isCached ∈ ax_WS := ax_wl ax_tm3 wdl_20_ok 5 rfl
theorem wd_750 : Cond.classLink RL 10 RX10 ∈ ax_WS := ax_wl ax_tm3 wdl_20_ok 6 rfl
theorem wd_751 : Cond.instantiable RX10 28 ∈ ax_WS := ax_wl ax_tm3 wdl_20_ok 7 rfl
theorem wd_752 : Cond.methodLink RL 12 yX10_init ∈ ax_WS := ax_wl ax_tm3 wdl_20_ok 8 rfl
theorem wd_753 : Cond.instanceMethod yX10_init ∈ ax_WS := ax_wl ax_tm3 wdl_20_ok 9 rfl
theorem wd_754 : Cond.code yX10_init cX10_init 1 none ∈ ax_WS := ax_wl ax_tm3 wdl_20_ok 10 rfl
theorem wd_755 : Cond.methodLink RX10 1 Lib.objectInit ∈ ax_WS := ax_wl ax_tm3 wdl_20_ok 11 rfl
theorem wd_756 : Cond.fieldLink RX10 7 RX10 "v" "[I" ∈ ax_WS := ax_wl ax_tm3 wdl_20_ok 12 rfl
theorem wd_757 : Cond.fieldLink RX10 13 RX10 "kept" "[I" ∈ ax_WS := ax_wl ax_tm3 wdl_20_ok 13 rfl
theorem wd_758 : Cond.fieldLink RX10 16 RX10 "isKept" "[Z" ∈ ax_WS := ax_wl ax_tm3 wdl_20_ok 14 rfl
theorem wd_759 : Cond.fieldLink RX10 20 RX10 "room" "I" ∈ ax_WS := ax_wl ax_tm3 wdl_20_ok 15 rfl
theorem wd_760 : Cond.fieldLink RX10 85 RX10 "cached" "I" ∈ ax_WS := ax_wl ax_tm3 wdl_20_ok 16 rfl
theorem wd_761 : Cond.fieldLink RX10 24 RX10 "cacheNode" "[I" ∈ ax_WS := ax_wl ax_tm3 wdl_20_ok 17 rfl
theorem wd_762 : Cond.fieldLink RX10 27 RX10 "cacheFrame" "[I" ∈ ax_WS := ax_wl ax_tm3 wdl_20_ok 18 rfl
theorem wd_763 : Cond.fieldLink RX10 30 RX10 "cacheUse" "[I" ∈ ax_WS := ax_wl ax_tm3 wdl_20_ok 19 rfl
theorem wd_764 : Cond.fieldLink RX10 33 RX10 "pictures" "[I" ∈ ax_WS := ax_wl ax_tm3 wdl_20_ok 20 rfl
theorem wd_765 : Cond.fieldLink RX10 133 RX10 "uses" "I" ∈ ax_WS := ax_wl ax_tm3 wdl_20_ok 21 rfl
theorem wd_766 : Cond.fieldLink RX10 36 RX10 "counts" "[I" ∈ ax_WS := ax_wl ax_tm3 wdl_20_ok 22 rfl
theorem wd_767 : Cond.fieldLink RX10 39 RX10 "text" "[I" ∈ ax_WS := ax_wl ax_tm3 wdl_20_ok 23 rfl
theorem wd_768 : Cond.fieldLink RX10 190 RX10 "length" "I" ∈ ax_WS := ax_wl ax_tm3 wdl_20_ok 24 rfl
theorem wd_769 : Cond.fieldLink RX10 42 RX10 "inputMany" "[I" ∈ ax_WS := ax_wl ax_tm3 wdl_20_ok 25 rfl
theorem wd_770 : Cond.fieldLink RX10 45 RX10 "parameterMany" "[I" ∈ ax_WS := ax_wl ax_tm3 wdl_20_ok 26 rfl
def wdl_21 : List Cond := [Cond.fieldLink RX10 48 RX10 "depths" "[I", Cond.fieldLink RX10 51 RX10 "waits" "[I", Cond.fieldLink RX10 54 RX10 "asked" "[I", Cond.fieldLink RX10 145 RX10 "waiting" "I", Cond.fieldLink RX10 193 RX10 "place" "I", Cond.fieldLink RX10 223 RX10 "depth" "I", Cond.fieldLink RX10 203 RX10 "number" "I", Cond.fieldLink RX10 57 RX10 "open" "[I", Cond.fieldLink RX10 60 RX10 "openMany" "[I", Cond.fieldLink RX10 63 RX10 "told" "[I", Cond.fieldLink RX10 206 RX10 "tellings" "I", Cond.fieldLink RX10 66 RX10 "done" "[I", Cond.fieldLink RX10 209 RX10 "dones" "I", Cond.methodLink RL 17 yX10_clear, Cond.instanceMethod yX10_clear, Cond.selects RX10 yX10_clear yX10_clear, Cond.code yX10_clear cX10_clear 2 (some .int), Cond.methodLink RL 22 yX10_addNode, Cond.instanceMethod yX10_addNode, Cond.selects RX10 yX10_addNode yX10_addNode, Cond.code yX10_addNode cX10_addNode 2 (some .int), Cond.methodLink RX10 69 yX10_in, Cond.static yX10_in, Cond.code yX10_in cX10_in 3 (some .boolean), Cond.methodLink RX10 91 yX10_adds, Cond.instanceMethod yX10_adds, Cond.code yX10_adds cX10_adds 4 (some .int), Cond.methodLink RX10 73 yX10_at, Cond.static yX10_at, Cond.code yX10_at cX10_at 2 (some .int)]
theorem wdl_21_ok : wdl_21.all goodWord = true ∧ [0, 1, 2, 3, 4, 5, 6, 7, 8, 9, 10, 11, 12, 70, 71, 72, 73, 74, 75, 76, 77, 78, 79, 80, 81, 83, 84, 85, 86, 87].map (fun i => tables_1_4[i]?) = wdl_21.map some := by decide +kernel
theorem wd_771 : Cond.fieldLink RX10 48 RX10 "depths" "[I" ∈ ax_WS := ax_wl ax_tm4 wdl_21_ok 0 rfl
theorem wd_772 : Cond.fieldLink RX10 51 RX10 "waits" "[I" ∈ ax_WS := ax_wl ax_tm4 wdl_21_ok 1 rfl
theorem wd_773 : Cond.fieldLink RX10 54 RX10 "asked" "[I" ∈ ax_WS := ax_wl ax_tm4 wdl_21_ok 2 rfl
theorem wd_774 : Cond.fieldLink RX10 145 RX10 "waiting" "I" ∈ ax_WS := ax_wl ax_tm4 wdl_21_ok 3 rfl
theorem wd_775 : Cond.fieldLink RX10 193 RX10 "place" "I" ∈ ax_WS := ax_wl ax_tm4 wdl_21_ok 4 rfl
theorem wd_776 : Cond.fieldLink RX10 223 RX10 "depth" "I" ∈ ax_WS := ax_wl ax_tm4 wdl_21_ok 5 rfl
theorem wd_777 : Cond.fieldLink RX10 203 RX10 "number" "I" ∈ ax_WS := ax_wl ax_tm4 wdl_21_ok 6 rfl
theorem wd_778 : Cond.fieldLink RX10 57 RX10 "open" "[I" ∈ ax_WS := ax_wl ax_tm4 wdl_21_ok 7 rfl
theorem wd_779 : Cond.fieldLink RX10 60 RX10 "openMany" "[I" ∈ ax_WS := ax_wl ax_tm4 wdl_21_ok 8 rfl
theorem wd_780 : Cond.fieldLink RX10 63 RX10 "told" "[I" ∈ ax_WS := ax_wl ax_tm4 wdl_21_ok 9 rfl
theorem wd_781 : Cond.fieldLink RX10 206 RX10 "tellings" "I" ∈ ax_WS := ax_wl ax_tm4 wdl_21_ok 10 rfl
theorem wd_782 : Cond.fieldLink RX10 66 RX10 "done" "[I" ∈ ax_WS := ax_wl ax_tm4 wdl_21_ok 11 rfl
theorem wd_783 : Cond.fieldLink RX10 209 RX10 "dones" "I" ∈ ax_WS := ax_wl ax_tm4 wdl_21_ok 12 rfl
theorem wd_841 : Cond.methodLink RL 17 yX10_clear ∈ ax_WS := ax_wl ax_tm4 wdl_21_ok 13 rfl
theorem wd_842 : Cond.instanceMethod yX10_clear ∈ ax_WS := ax_wl ax_tm4 wdl_21_ok 14 rfl
theorem wd_843 : Cond.selects RX10 yX10_clear yX10_clear ∈ ax_WS := ax_wl ax_tm4 wdl_21_ok 15 rfl
theorem wd_844 : Cond.code yX10_clear cX10_clear 2 (some .int) ∈ ax_WS := ax_wl ax_tm4 wdl_21_ok 16 rfl
theorem wd_845 : Cond.methodLink RL 22 yX10_addNode ∈ ax_WS := ax_wl ax_tm4 wdl_21_ok 17 rfl
theorem wd_846 : Cond.instanceMethod yX10_addNode ∈ ax_WS := ax_wl ax_tm4 wdl_21_ok 18 rfl
theorem wd_847 : Cond.selects RX10 yX10_addNode yX10_addNode ∈ ax_WS := ax_wl ax_tm4 wdl_21_ok 19 rfl
theorem wd_848 : Cond.code yX10_addNode cX10_addNode 2 (some .int) ∈ ax_WS := ax_wl ax_tm4 wdl_21_ok 20 rfl
theorem wd_849 : Cond.methodLink RX10 69 yX10_in ∈ ax_WS := ax_wl ax_tm4 wdl_21_ok 21 rfl
theorem wd_850 : Cond.static yX10_in ∈ ax_WS := ax_wl ax_tm4 wdl_21_ok 22 rfl
theorem wd_851 : Cond.code yX10_in cX10_in 3 (some .boolean) ∈ ax_WS := ax_wl ax_tm4 wdl_21_ok 23 rfl
theorem wd_852 : Cond.methodLink RX10 91 yX10_adds ∈ ax_WS := ax_wl ax_tm4 wdl_21_ok 24 rfl
theorem wd_854 : Cond.instanceMethod yX10_adds ∈ ax_WS := ax_wl ax_tm4 wdl_21_ok 25 rfl
theorem wd_855 : Cond.code yX10_adds cX10_adds 4 (some .int) ∈ ax_WS := ax_wl ax_tm4 wdl_21_ok 26 rfl
theorem wd_856 : Cond.methodLink RX10 73 yX10_at ∈ ax_WS := ax_wl ax_tm4 wdl_21_ok 27 rfl
theorem wd_857 : Cond.static yX10_at ∈ ax_WS := ax_wl ax_tm4 wdl_21_ok 28 rfl
theorem wd_858 : Cond.code yX10_at cX10_at 2 (some .int) ∈ ax_WS := ax_wl ax_tm4 wdl_21_ok 29 rfl
def wdl_22 : List Cond := [Cond.methodLink RX10 88 yX10_first, Cond.static yX10_first, Cond.code yX10_first cX10_first 2 (some .int), Cond.methodLink RL 27 yX10_connect, Cond.instanceMethod yX10_connect, Cond.selects RX10 yX10_connect yX10_connect, Cond.code yX10_connect cX10_connect 4 (some .int), Cond.methodLink RX10 101 yX10_isInput, Cond.instanceMethod yX10_isInput, Cond.code yX10_isInput cX10_isInput 3 (some .boolean), Cond.methodLink RX10 77 yX10_isNode, Cond.instanceMethod yX10_isNode, Cond.code yX10_isNode cX10_isNode 2 (some .boolean), Cond.methodLink RX10 81 yX10_kind, Cond.instanceMethod yX10_kind, Cond.code yX10_kind cX10_kind 2 (some .int), Cond.methodLink RX10 94 yX10_dependents, Cond.instanceMethod yX10_dependents, Cond.code yX10_dependents cX10_dependents 7 (some .int), Cond.methodLink RX10 105 yX10_voids, Cond.instanceMethod yX10_voids, Cond.code yX10_voids cX10_voids 10 (some .int), Cond.methodLink RX10 97 yX10_drops, Cond.instanceMethod yX10_drops, Cond.code yX10_drops cX10_drops 3 none, Cond.methodLink RL 31 yX10_set, Cond.instanceMethod yX10_set, Cond.selects RX10 yX10_set yX10_set, Cond.code yX10_set cX10_set 4 (some .int), Cond.methodLink RX10 109 yX10_isParameter]
theorem wdl_22_ok : wdl_22.all goodWord = true ∧ [88, 89, 90, 91, 92, 93, 94, 95, 97, 98, 99, 101, 102, 103, 105, 106, 107, 109, 110, 111, 113, 114, 115, 117, 118, 119, 120, 121, 122, 123].map (fun i => tables_1_4[i]?) = wdl_22.map some := by decide +kernel
theorem wd_859 : Cond.methodLink RX10 88 yX10_first ∈ ax_WS := ax_wl ax_tm4 wdl_22_ok 0 rfl
theorem wd_860 : Cond.static yX10_first ∈ ax_WS := ax_wl ax_tm4 wdl_22_ok 1 rfl
theorem wd_861 : Cond.code yX10_first cX10_first 2 (some .int) ∈ ax_WS := ax_wl ax_tm4 wdl_22_ok 2 rfl
theorem wd_862 : Cond.methodLink RL 27 yX10_connect ∈ ax_WS := ax_wl ax_tm4 wdl_22_ok 3 rfl
theorem wd_863 : Cond.instanceMethod yX10_connect ∈ ax_WS := ax_wl ax_tm4 wdl_22_ok 4 rfl
theorem wd_864 : Cond.selects RX10 yX10_connect yX10_connect ∈ ax_WS := ax_wl ax_tm4 wdl_22_ok 5 rfl
theorem wd_865 : Cond.code yX10_connect cX10_connect 4 (some .int) ∈ ax_WS := ax_wl ax_tm4 wdl_22_ok 6 rfl
theorem wd_866 : Cond.methodLink RX10 101 yX10_isInput ∈ ax_WS := ax_wl ax_tm4 wdl_22_ok 7 rfl
theorem wd_868 : Cond.instanceMethod yX10_isInput ∈ ax_WS := ax_wl ax_tm4 wdl_22_ok 8 rfl
theorem wd_869 : Cond.code yX10_isInput cX10_isInput 3 (some .boolean) ∈ ax_WS := ax_wl ax_tm4 wdl_22_ok 9 rfl
theorem wd_870 : Cond.methodLink RX10 77 yX10_isNode ∈ ax_WS := ax_wl ax_tm4 wdl_22_ok 10 rfl
theorem wd_872 : Cond.instanceMethod yX10_isNode ∈ ax_WS := ax_wl ax_tm4 wdl_22_ok 11 rfl
theorem wd_873 : Cond.code yX10_isNode cX10_isNode 2 (some .boolean) ∈ ax_WS := ax_wl ax_tm4 wdl_22_ok 12 rfl
theorem wd_874 : Cond.methodLink RX10 81 yX10_kind ∈ ax_WS := ax_wl ax_tm4 wdl_22_ok 13 rfl
theorem wd_876 : Cond.instanceMethod yX10_kind ∈ ax_WS := ax_wl ax_tm4 wdl_22_ok 14 rfl
theorem wd_877 : Cond.code yX10_kind cX10_kind 2 (some .int) ∈ ax_WS := ax_wl ax_tm4 wdl_22_ok 15 rfl
theorem wd_878 : Cond.methodLink RX10 94 yX10_dependents ∈ ax_WS := ax_wl ax_tm4 wdl_22_ok 16 rfl
theorem wd_880 : Cond.instanceMethod yX10_dependents ∈ ax_WS := ax_wl ax_tm4 wdl_22_ok 17 rfl
theorem wd_881 : Cond.code yX10_dependents cX10_dependents 7 (some .int) ∈ ax_WS := ax_wl ax_tm4 wdl_22_ok 18 rfl
theorem wd_882 : Cond.methodLink RX10 105 yX10_voids ∈ ax_WS := ax_wl ax_tm4 wdl_22_ok 19 rfl
theorem wd_884 : Cond.instanceMethod yX10_voids ∈ ax_WS := ax_wl ax_tm4 wdl_22_ok 20 rfl
theorem wd_885 : Cond.code yX10_voids cX10_voids 10 (some .int) ∈ ax_WS := ax_wl ax_tm4 wdl_22_ok 21 rfl
theorem wd_886 : Cond.methodLink RX10 97 yX10_drops ∈ ax_WS := ax_wl ax_tm4 wdl_22_ok 22 rfl
theorem wd_888 : Cond.instanceMethod yX10_drops ∈ ax_WS := ax_wl ax_tm4 wdl_22_ok 23 rfl
theorem wd_889 : Cond.code yX10_drops cX10_drops 3 none ∈ ax_WS := ax_wl ax_tm4 wdl_22_ok 24 rfl
theorem wd_890 : Cond.methodLink RL 31 yX10_set ∈ ax_WS := ax_wl ax_tm4 wdl_22_ok 25 rfl
theorem wd_891 : Cond.instanceMethod yX10_set ∈ ax_WS := ax_wl ax_tm4 wdl_22_ok 26 rfl
theorem wd_892 : Cond.selects RX10 yX10_set yX10_set ∈ ax_WS := ax_wl ax_tm4 wdl_22_ok 27 rfl
theorem wd_893 : Cond.code yX10_set cX10_set 4 (some .int) ∈ ax_WS := ax_wl ax_tm4 wdl_22_ok 28 rfl
theorem wd_894 : Cond.methodLink RX10 109 yX10_isParameter ∈ ax_WS := ax_wl ax_tm4 wdl_22_ok 29 rfl
def wdl_23 : List Cond := [Cond.instanceMethod yX10_isParameter, Cond.code yX10_isParameter cX10_isParameter 3 (some .boolean), Cond.methodLink RX10 112 yX10_low, Cond.static yX10_low, Cond.code yX10_low cX10_low 1 (some .int), Cond.methodLink RX10 115 yX10_high, Cond.static yX10_high, Cond.code yX10_high cX10_high 2 (some .int), Cond.methodLink RL 35 yX10_setRange, Cond.instanceMethod yX10_setRange, Cond.selects RX10 yX10_setRange yX10_setRange, Cond.code yX10_setRange cX10_setRange 6 (some .int), Cond.methodLink RL 39 yX10_nodes, Cond.instanceMethod yX10_nodes, Cond.selects RX10 yX10_nodes yX10_nodes, Cond.code yX10_nodes cX10_nodes 1 (some .int), Cond.methodLink RL 44 yX10_node, Cond.instanceMethod yX10_node, Cond.selects RX10 yX10_node yX10_node, Cond.code yX10_node cX10_node 3 (some .int), Cond.methodLink RX10 130 yX10_nodeTells, Cond.instanceMethod yX10_nodeTells, Cond.code yX10_nodeTells cX10_nodeTells 3 (some .int), Cond.methodLink RX10 121 yX10_size, Cond.static yX10_size, Cond.code yX10_size cX10_size 3 (some .int), Cond.methodLink RX10 124 yX10_placeOf, Cond.instanceMethod yX10_placeOf, Cond.code yX10_placeOf cX10_placeOf 5 (some .int), Cond.methodLink RX10 118 yX10_isReady]
theorem wdl_23_ok : wdl_23.all goodWord = true ∧ [125, 126, 127, 128, 129, 130, 131, 132, 133, 134, 135, 136, 137, 138, 139, 140, 141, 142, 143, 144, 145, 147, 148, 149, 150, 151, 152, 154, 155, 156].map (fun i => tables_1_4[i]?) = wdl_23.map some := by decide +kernel
theorem wd_896 : Cond.instanceMethod yX10_isParameter ∈ ax_WS := ax_wl ax_tm4 wdl_23_ok 0 rfl
theorem wd_897 : Cond.code yX10_isParameter cX10_isParameter 3 (some .boolean) ∈ ax_WS := ax_wl ax_tm4 wdl_23_ok 1 rfl
theorem wd_898 : Cond.methodLink RX10 112 yX10_low ∈ ax_WS := ax_wl ax_tm4 wdl_23_ok 2 rfl
theorem wd_899 : Cond.static yX10_low ∈ ax_WS := ax_wl ax_tm4 wdl_23_ok 3 rfl
theorem wd_900 : Cond.code yX10_low cX10_low 1 (some .int) ∈ ax_WS := ax_wl ax_tm4 wdl_23_ok 4 rfl
theorem wd_901 : Cond.methodLink RX10 115 yX10_high ∈ ax_WS := ax_wl ax_tm4 wdl_23_ok 5 rfl
theorem wd_902 : Cond.static yX10_high ∈ ax_WS := ax_wl ax_tm4 wdl_23_ok 6 rfl
theorem wd_903 : Cond.code yX10_high cX10_high 2 (some .int) ∈ ax_WS := ax_wl ax_tm4 wdl_23_ok 7 rfl
theorem wd_904 : Cond.methodLink RL 35 yX10_setRange ∈ ax_WS := ax_wl ax_tm4 wdl_23_ok 8 rfl
theorem wd_905 : Cond.instanceMethod yX10_setRange ∈ ax_WS := ax_wl ax_tm4 wdl_23_ok 9 rfl
theorem wd_906 : Cond.selects RX10 yX10_setRange yX10_setRange ∈ ax_WS := ax_wl ax_tm4 wdl_23_ok 10 rfl
theorem wd_907 : Cond.code yX10_setRange cX10_setRange 6 (some .int) ∈ ax_WS := ax_wl ax_tm4 wdl_23_ok 11 rfl
theorem wd_908 : Cond.methodLink RL 39 yX10_nodes ∈ ax_WS := ax_wl ax_tm4 wdl_23_ok 12 rfl
theorem wd_909 : Cond.instanceMethod yX10_nodes ∈ ax_WS := ax_wl ax_tm4 wdl_23_ok 13 rfl
theorem wd_910 : Cond.selects RX10 yX10_nodes yX10_nodes ∈ ax_WS := ax_wl ax_tm4 wdl_23_ok 14 rfl
theorem wd_911 : Cond.code yX10_nodes cX10_nodes 1 (some .int) ∈ ax_WS := ax_wl ax_tm4 wdl_23_ok 15 rfl
theorem wd_912 : Cond.methodLink RL 44 yX10_node ∈ ax_WS := ax_wl ax_tm4 wdl_23_ok 16 rfl
theorem wd_913 : Cond.instanceMethod yX10_node ∈ ax_WS := ax_wl ax_tm4 wdl_23_ok 17 rfl
theorem wd_914 : Cond.selects RX10 yX10_node yX10_node ∈ ax_WS := ax_wl ax_tm4 wdl_23_ok 18 rfl
theorem wd_915 : Cond.code yX10_node cX10_node 3 (some .int) ∈ ax_WS := ax_wl ax_tm4 wdl_23_ok 19 rfl
theorem wd_916 : Cond.methodLink RX10 130 yX10_nodeTells ∈ ax_WS := ax_wl ax_tm4 wdl_23_ok 20 rfl
theorem wd_918 : Cond.instanceMethod yX10_nodeTells ∈ ax_WS := ax_wl ax_tm4 wdl_23_ok 21 rfl
theorem wd_919 : Cond.code yX10_nodeTells cX10_nodeTells 3 (some .int) ∈ ax_WS := ax_wl ax_tm4 wdl_23_ok 22 rfl
theorem wd_920 : Cond.methodLink RX10 121 yX10_size ∈ ax_WS := ax_wl ax_tm4 wdl_23_ok 23 rfl
theorem wd_921 : Cond.static yX10_size ∈ ax_WS := ax_wl ax_tm4 wdl_23_ok 24 rfl
theorem wd_922 : Cond.code yX10_size cX10_size 3 (some .int) ∈ ax_WS := ax_wl ax_tm4 wdl_23_ok 25 rfl
theorem wd_923 : Cond.methodLink RX10 124 yX10_placeOf ∈ ax_WS := ax_wl ax_tm4 wdl_23_ok 26 rfl
theorem wd_925 : Cond.instanceMethod yX10_placeOf ∈ ax_WS := ax_wl ax_tm4 wdl_23_ok 27 rfl
theorem wd_926 : Cond.code yX10_placeOf cX10_placeOf 5 (some .int) ∈ ax_WS := ax_wl ax_tm4 wdl_23_ok 28 rfl
theorem wd_927 : Cond.methodLink RX10 118 yX10_isReady ∈ ax_WS := ax_wl ax_tm4 wdl_23_ok 29 rfl
def wdl_24 : List Cond := [Cond.instanceMethod yX10_isReady, Cond.code yX10_isReady cX10_isReady 6 (some .boolean), Cond.methodLink RX10 127 yX10_depthOf, Cond.instanceMethod yX10_depthOf, Cond.code yX10_depthOf cX10_depthOf 6 (some .int), Cond.methodLink RL 48 yX10_input, Cond.instanceMethod yX10_input, Cond.selects RX10 yX10_input yX10_input, Cond.code yX10_input cX10_input 3 (some .int), Cond.methodLink RL 52 yX10_parameter, Cond.instanceMethod yX10_parameter, Cond.selects RX10 yX10_parameter yX10_parameter, Cond.code yX10_parameter cX10_parameter 3 (some .int), Cond.methodLink RL 57 yX10_value, Cond.instanceMethod yX10_value, Cond.selects RX10 yX10_value yX10_value, Cond.code yX10_value cX10_value 6 (some .int), Cond.methodLink RX10 178 yX10_isPicture, Cond.instanceMethod yX10_isPicture, Cond.code yX10_isPicture cX10_isPicture 3 (some .boolean), Cond.methodLink RX10 181 yX10_picture, Cond.instanceMethod yX10_picture, Cond.code yX10_picture cX10_picture 7 (some .int), Cond.methodLink RX10 148 yX10_asks, Cond.instanceMethod yX10_asks, Cond.code yX10_asks cX10_asks 4 none, Cond.methodLink RX10 140 yX10_find, Cond.instanceMethod yX10_find, Cond.code yX10_find cX10_find 4 (some .int), Cond.methodLink RX10 143 yX10_uses]
theorem wdl_24_ok : wdl_24.all goodWord = true ∧ [158, 159, 160, 162, 163, 164, 165, 166, 167, 168, 169, 170, 171, 172, 173, 174, 175, 176, 178, 179, 180, 182, 183, 184, 186, 187, 188, 190, 191, 192].map (fun i => tables_1_4[i]?) = wdl_24.map some := by decide +kernel
theorem wd_929 : Cond.instanceMethod yX10_isReady ∈ ax_WS := ax_wl ax_tm4 wdl_24_ok 0 rfl
theorem wd_930 : Cond.code yX10_isReady cX10_isReady 6 (some .boolean) ∈ ax_WS := ax_wl ax_tm4 wdl_24_ok 1 rfl
theorem wd_931 : Cond.methodLink RX10 127 yX10_depthOf ∈ ax_WS := ax_wl ax_tm4 wdl_24_ok 2 rfl
theorem wd_933 : Cond.instanceMethod yX10_depthOf ∈ ax_WS := ax_wl ax_tm4 wdl_24_ok 3 rfl
theorem wd_934 : Cond.code yX10_depthOf cX10_depthOf 6 (some .int) ∈ ax_WS := ax_wl ax_tm4 wdl_24_ok 4 rfl
theorem wd_935 : Cond.methodLink RL 48 yX10_input ∈ ax_WS := ax_wl ax_tm4 wdl_24_ok 5 rfl
theorem wd_936 : Cond.instanceMethod yX10_input ∈ ax_WS := ax_wl ax_tm4 wdl_24_ok 6 rfl
theorem wd_937 : Cond.selects RX10 yX10_input yX10_input ∈ ax_WS := ax_wl ax_tm4 wdl_24_ok 7 rfl
theorem wd_938 : Cond.code yX10_input cX10_input 3 (some .int) ∈ ax_WS := ax_wl ax_tm4 wdl_24_ok 8 rfl
theorem wd_939 : Cond.methodLink RL 52 yX10_parameter ∈ ax_WS := ax_wl ax_tm4 wdl_24_ok 9 rfl
theorem wd_940 : Cond.instanceMethod yX10_parameter ∈ ax_WS := ax_wl ax_tm4 wdl_24_ok 10 rfl
theorem wd_941 : Cond.selects RX10 yX10_parameter yX10_parameter ∈ ax_WS := ax_wl ax_tm4 wdl_24_ok 11 rfl
theorem wd_942 : Cond.code yX10_parameter cX10_parameter 3 (some .int) ∈ ax_WS := ax_wl ax_tm4 wdl_24_ok 12 rfl
theorem wd_943 : Cond.methodLink RL 57 yX10_value ∈ ax_WS := ax_wl ax_tm4 wdl_24_ok 13 rfl
theorem wd_944 : Cond.instanceMethod yX10_value ∈ ax_WS := ax_wl ax_tm4 wdl_24_ok 14 rfl
theorem wd_945 : Cond.selects RX10 yX10_value yX10_value ∈ ax_WS := ax_wl ax_tm4 wdl_24_ok 15 rfl
theorem wd_946 : Cond.code yX10_value cX10_value 6 (some .int) ∈ ax_WS := ax_wl ax_tm4 wdl_24_ok 16 rfl
theorem wd_947 : Cond.methodLink RX10 178 yX10_isPicture ∈ ax_WS := ax_wl ax_tm4 wdl_24_ok 17 rfl
theorem wd_949 : Cond.instanceMethod yX10_isPicture ∈ ax_WS := ax_wl ax_tm4 wdl_24_ok 18 rfl
theorem wd_950 : Cond.code yX10_isPicture cX10_isPicture 3 (some .boolean) ∈ ax_WS := ax_wl ax_tm4 wdl_24_ok 19 rfl
theorem wd_951 : Cond.methodLink RX10 181 yX10_picture ∈ ax_WS := ax_wl ax_tm4 wdl_24_ok 20 rfl
theorem wd_953 : Cond.instanceMethod yX10_picture ∈ ax_WS := ax_wl ax_tm4 wdl_24_ok 21 rfl
theorem wd_954 : Cond.code yX10_picture cX10_picture 7 (some .int) ∈ ax_WS := ax_wl ax_tm4 wdl_24_ok 22 rfl
theorem wd_955 : Cond.methodLink RX10 148 yX10_asks ∈ ax_WS := ax_wl ax_tm4 wdl_24_ok 23 rfl
theorem wd_957 : Cond.instanceMethod yX10_asks ∈ ax_WS := ax_wl ax_tm4 wdl_24_ok 24 rfl
theorem wd_958 : Cond.code yX10_asks cX10_asks 4 none ∈ ax_WS := ax_wl ax_tm4 wdl_24_ok 25 rfl
theorem wd_959 : Cond.methodLink RX10 140 yX10_find ∈ ax_WS := ax_wl ax_tm4 wdl_24_ok 26 rfl
theorem wd_961 : Cond.instanceMethod yX10_find ∈ ax_WS := ax_wl ax_tm4 wdl_24_ok 27 rfl
theorem wd_962 : Cond.code yX10_find cX10_find 4 (some .int) ∈ ax_WS := ax_wl ax_tm4 wdl_24_ok 28 rfl
theorem wd_963 : Cond.methodLink RX10 143 yX10_uses ∈ ax_WS := ax_wl ax_tm4 wdl_24_ok 29 rfl
def wdl_25 : List Cond := [Cond.instanceMethod yX10_uses, Cond.code yX10_uses cX10_uses 2 none, Cond.methodLink RX10 152 yX10_isInRange, Cond.instanceMethod yX10_isInRange, Cond.code yX10_isInRange cX10_isInRange 3 (some .boolean), Cond.methodLink RX10 155 yX10_makes, Cond.instanceMethod yX10_makes, Cond.code yX10_makes cX10_makes 5 none, Cond.methodLink RX10 158 yX10_makesRoom, Cond.instanceMethod yX10_makesRoom, Cond.code yX10_makesRoom cX10_makesRoom 2 none, Cond.methodLink RX10 136 yX10_oldest, Cond.instanceMethod yX10_oldest, Cond.code yX10_oldest cX10_oldest 3 (some .int), Cond.methodLink RX10 161 yX10_made, Cond.instanceMethod yX10_made, Cond.code yX10_made cX10_made 7 (some .int), Cond.methodLink RX10 165 yX10_seen, Cond.instanceMethod yX10_seen, Cond.code yX10_seen cX10_seen 6 (some .int), Cond.methodLink RX10 169 yX10_limit, Cond.static yX10_limit, Cond.code yX10_limit cX10_limit 1 (some .int), Cond.methodLink RX10 172 yX10_blurred, Cond.instanceMethod yX10_blurred, Cond.code yX10_blurred cX10_blurred 8 (some .int), Cond.methodLink RX10 175 yX10_keyed, Cond.static yX10_keyed, Cond.code yX10_keyed cX10_keyed 5 (some .int), Cond.methodLink RL 62 yX10_scope]
theorem wdl_25_ok : wdl_25.all goodWord = true ∧ [194, 195, 196, 198, 199, 200, 202, 203, 204, 206, 207, 208, 210, 211, 212, 214, 215, 216, 218, 219, 220, 221, 222, 223, 225, 226, 227, 228, 229, 230].map (fun i => tables_1_4[i]?) = wdl_25.map some := by decide +kernel
theorem wd_965 : Cond.instanceMethod yX10_uses ∈ ax_WS := ax_wl ax_tm4 wdl_25_ok 0 rfl
theorem wd_966 : Cond.code yX10_uses cX10_uses 2 none ∈ ax_WS := ax_wl ax_tm4 wdl_25_ok 1 rfl
theorem wd_967 : Cond.methodLink RX10 152 yX10_isInRange ∈ ax_WS := ax_wl ax_tm4 wdl_25_ok 2 rfl
theorem wd_969 : Cond.instanceMethod yX10_isInRange ∈ ax_WS := ax_wl ax_tm4 wdl_25_ok 3 rfl
theorem wd_970 : Cond.code yX10_isInRange cX10_isInRange 3 (some .boolean) ∈ ax_WS := ax_wl ax_tm4 wdl_25_ok 4 rfl
theorem wd_971 : Cond.methodLink RX10 155 yX10_makes ∈ ax_WS := ax_wl ax_tm4 wdl_25_ok 5 rfl
theorem wd_973 : Cond.instanceMethod yX10_makes ∈ ax_WS := ax_wl ax_tm4 wdl_25_ok 6 rfl
theorem wd_974 : Cond.code yX10_makes cX10_makes 5 none ∈ ax_WS := ax_wl ax_tm4 wdl_25_ok 7 rfl
theorem wd_975 : Cond.methodLink RX10 158 yX10_makesRoom ∈ ax_WS := ax_wl ax_tm4 wdl_25_ok 8 rfl
theorem wd_977 : Cond.instanceMethod yX10_makesRoom ∈ ax_WS := ax_wl ax_tm4 wdl_25_ok 9 rfl
theorem wd_978 : Cond.code yX10_makesRoom cX10_makesRoom 2 none ∈ ax_WS := ax_wl ax_tm4 wdl_25_ok 10 rfl
theorem wd_979 : Cond.methodLink RX10 136 yX10_oldest ∈ ax_WS := ax_wl ax_tm4 wdl_25_ok 11 rfl
theorem wd_981 : Cond.instanceMethod yX10_oldest ∈ ax_WS := ax_wl ax_tm4 wdl_25_ok 12 rfl
theorem wd_982 : Cond.code yX10_oldest cX10_oldest 3 (some .int) ∈ ax_WS := ax_wl ax_tm4 wdl_25_ok 13 rfl
theorem wd_983 : Cond.methodLink RX10 161 yX10_made ∈ ax_WS := ax_wl ax_tm4 wdl_25_ok 14 rfl
theorem wd_985 : Cond.instanceMethod yX10_made ∈ ax_WS := ax_wl ax_tm4 wdl_25_ok 15 rfl
theorem wd_986 : Cond.code yX10_made cX10_made 7 (some .int) ∈ ax_WS := ax_wl ax_tm4 wdl_25_ok 16 rfl
theorem wd_987 : Cond.methodLink RX10 165 yX10_seen ∈ ax_WS := ax_wl ax_tm4 wdl_25_ok 17 rfl
theorem wd_989 : Cond.instanceMethod yX10_seen ∈ ax_WS := ax_wl ax_tm4 wdl_25_ok 18 rfl
theorem wd_990 : Cond.code yX10_seen cX10_seen 6 (some .int) ∈ ax_WS := ax_wl ax_tm4 wdl_25_ok 19 rfl
theorem wd_991 : Cond.methodLink RX10 169 yX10_limit ∈ ax_WS := ax_wl ax_tm4 wdl_25_ok 20 rfl
theorem wd_992 : Cond.static yX10_limit ∈ ax_WS := ax_wl ax_tm4 wdl_25_ok 21 rfl
theorem wd_993 : Cond.code yX10_limit cX10_limit 1 (some .int) ∈ ax_WS := ax_wl ax_tm4 wdl_25_ok 22 rfl
theorem wd_994 : Cond.methodLink RX10 172 yX10_blurred ∈ ax_WS := ax_wl ax_tm4 wdl_25_ok 23 rfl
theorem wd_996 : Cond.instanceMethod yX10_blurred ∈ ax_WS := ax_wl ax_tm4 wdl_25_ok 24 rfl
theorem wd_997 : Cond.code yX10_blurred cX10_blurred 8 (some .int) ∈ ax_WS := ax_wl ax_tm4 wdl_25_ok 25 rfl
theorem wd_998 : Cond.methodLink RX10 175 yX10_keyed ∈ ax_WS := ax_wl ax_tm4 wdl_25_ok 26 rfl
theorem wd_999 : Cond.static yX10_keyed ∈ ax_WS := ax_wl ax_tm4 wdl_25_ok 27 rfl
theorem wd_1000 : Cond.code yX10_keyed cX10_keyed 5 (some .int) ∈ ax_WS := ax_wl ax_tm4 wdl_25_ok 28 rfl
theorem wd_1001 : Cond.methodLink RL 62 yX10_scope ∈ ax_WS := ax_wl ax_tm4 wdl_25_ok 29 rfl
def wdl_26 : List Cond := [Cond.instanceMethod yX10_scope, Cond.selects RX10 yX10_scope yX10_scope, Cond.code yX10_scope cX10_scope 8 (some .int), Cond.methodLink RL 66 yX10_sum, Cond.instanceMethod yX10_sum, Cond.selects RX10 yX10_sum yX10_sum, Cond.code yX10_sum cX10_sum 5 (some .int), Cond.methodLink RX10 184 yX10_sums]
theorem wdl_26_ok : wdl_26.all goodWord = true ∧ [231, 232, 233, 234, 235, 236, 237, 238].map (fun i => tables_1_4[i]?) = wdl_26.map some := by decide +kernel
theorem wd_1002 : Cond.instanceMethod yX10_scope ∈ ax_WS := ax_wl ax_tm4 wdl_26_ok 0 rfl
theorem wd_1003 : Cond.selects RX10 yX10_scope yX10_scope ∈ ax_WS := ax_wl ax_tm4 wdl_26_ok 1 rfl
theorem wd_1004 : Cond.code yX10_scope cX10_scope 8 (some .int) ∈ ax_WS := ax_wl ax_tm4 wdl_26_ok 2 rfl
theorem wd_1005 : Cond.methodLink RL 66 yX10_sum ∈ ax_WS := ax_wl ax_tm4 wdl_26_ok 3 rfl
theorem wd_1006 : Cond.instanceMethod yX10_sum ∈ ax_WS := ax_wl ax_tm4 wdl_26_ok 4 rfl
theorem wd_1007 : Cond.selects RX10 yX10_sum yX10_sum ∈ ax_WS := ax_wl ax_tm4 wdl_26_ok 5 rfl
theorem wd_1008 : Cond.code yX10_sum cX10_sum 5 (some .int) ∈ ax_WS := ax_wl ax_tm4 wdl_26_ok 6 rfl
theorem wd_1009 : Cond.methodLink RX10 184 yX10_sums ∈ ax_WS := ax_wl ax_tm4 wdl_26_ok 7 rfl
def wdl_27 : List Cond := [Cond.instanceMethod yX10_sums, Cond.code yX10_sums cX10_sums 11 (some .int), Cond.methodLink RL 70 yX10_compare, Cond.instanceMethod yX10_compare, Cond.selects RX10 yX10_compare yX10_compare, Cond.code yX10_compare cX10_compare 10 (some .int), Cond.methodLink RL 74 yX10_setRoom, Cond.instanceMethod yX10_setRoom, Cond.selects RX10 yX10_setRoom yX10_setRoom, Cond.code yX10_setRoom cX10_setRoom 3 (some .int), Cond.methodLink RL 78 yX10_isCached, Cond.instanceMethod yX10_isCached, Cond.selects RX10 yX10_isCached yX10_isCached, Cond.code yX10_isCached cX10_isCached 3 (some .int), Cond.methodLink RL 82 yX10_count, Cond.instanceMethod yX10_count, Cond.selects RX10 yX10_count yX10_count, Cond.code yX10_count cX10_count 2 (some .int), Cond.methodLink RX10 187 yX10_countOf, Cond.instanceMethod yX10_countOf, Cond.code yX10_countOf cX10_countOf 2 (some .int), Cond.methodLink RL 86 yX10_append, Cond.instanceMethod yX10_append, Cond.selects RX10 yX10_append yX10_append, Cond.code yX10_append cX10_append 2 (some .int), Cond.methodLink RL 90 yX10_clearText, Cond.instanceMethod yX10_clearText, Cond.selects RX10 yX10_clearText yX10_clearText, Cond.code yX10_clearText cX10_clearText 2 (some .int), Cond.methodLink RL 94 yX10_faultPosition]
theorem wdl_27_ok : wdl_27.all goodWord = true ∧ [0, 1, 2, 3, 4, 5, 6, 7, 8, 9, 10, 11, 12, 13, 14, 15, 16, 17, 18, 20, 21, 22, 23, 24, 25, 26, 27, 28, 29, 30].map (fun i => tables_1_5[i]?) = wdl_27.map some := by decide +kernel
theorem wd_1011 : Cond.instanceMethod yX10_sums ∈ ax_WS := ax_wl ax_tm5 wdl_27_ok 0 rfl
theorem wd_1012 : Cond.code yX10_sums cX10_sums 11 (some .int) ∈ ax_WS := ax_wl ax_tm5 wdl_27_ok 1 rfl
theorem wd_1013 : Cond.methodLink RL 70 yX10_compare ∈ ax_WS := ax_wl ax_tm5 wdl_27_ok 2 rfl
theorem wd_1014 : Cond.instanceMethod yX10_compare ∈ ax_WS := ax_wl ax_tm5 wdl_27_ok 3 rfl
theorem wd_1015 : Cond.selects RX10 yX10_compare yX10_compare ∈ ax_WS := ax_wl ax_tm5 wdl_27_ok 4 rfl
theorem wd_1016 : Cond.code yX10_compare cX10_compare 10 (some .int) ∈ ax_WS := ax_wl ax_tm5 wdl_27_ok 5 rfl
theorem wd_1017 : Cond.methodLink RL 74 yX10_setRoom ∈ ax_WS := ax_wl ax_tm5 wdl_27_ok 6 rfl
theorem wd_1018 : Cond.instanceMethod yX10_setRoom ∈ ax_WS := ax_wl ax_tm5 wdl_27_ok 7 rfl
theorem wd_1019 : Cond.selects RX10 yX10_setRoom yX10_setRoom ∈ ax_WS := ax_wl ax_tm5 wdl_27_ok 8 rfl
theorem wd_1020 : Cond.code yX10_setRoom cX10_setRoom 3 (some .int) ∈ ax_WS := ax_wl ax_tm5 wdl_27_ok 9 rfl
theorem wd_1021 : Cond.methodLink RL 78 yX10_isCached ∈ ax_WS := ax_wl ax_tm5 wdl_27_ok 10 rfl
theorem wd_1022 : Cond.instanceMethod yX10_isCached ∈ ax_WS := ax_wl ax_tm5 wdl_27_ok 11 rfl
theorem wd_1023 : Cond.selects RX10 yX10_isCached yX10_isCached ∈ ax_WS := ax_wl ax_tm5 wdl_27_ok 12 rfl
theorem wd_1024 : Cond.code yX10_isCached cX10_isCached 3 (some .int) ∈ ax_WS := ax_wl ax_tm5 wdl_27_ok 13 rfl
theorem wd_1025 : Cond.methodLink RL 82 yX10_count ∈ ax_WS := ax_wl ax_tm5 wdl_27_ok 14 rfl
theorem wd_1026 : Cond.instanceMethod yX10_count ∈ ax_WS := ax_wl ax_tm5 wdl_27_ok 15 rfl
theorem wd_1027 : Cond.selects RX10 yX10_count yX10_count ∈ ax_WS := ax_wl ax_tm5 wdl_27_ok 16 rfl
theorem wd_1028 : Cond.code yX10_count cX10_count 2 (some .int) ∈ ax_WS := ax_wl ax_tm5 wdl_27_ok 17 rfl
theorem wd_1029 : Cond.methodLink RX10 187 yX10_countOf ∈ ax_WS := ax_wl ax_tm5 wdl_27_ok 18 rfl
theorem wd_1031 : Cond.instanceMethod yX10_countOf ∈ ax_WS := ax_wl ax_tm5 wdl_27_ok 19 rfl
theorem wd_1032 : Cond.code yX10_countOf cX10_countOf 2 (some .int) ∈ ax_WS := ax_wl ax_tm5 wdl_27_ok 20 rfl
theorem wd_1033 : Cond.methodLink RL 86 yX10_append ∈ ax_WS := ax_wl ax_tm5 wdl_27_ok 21 rfl
theorem wd_1034 : Cond.instanceMethod yX10_append ∈ ax_WS := ax_wl ax_tm5 wdl_27_ok 22 rfl
theorem wd_1035 : Cond.selects RX10 yX10_append yX10_append ∈ ax_WS := ax_wl ax_tm5 wdl_27_ok 23 rfl
theorem wd_1036 : Cond.code yX10_append cX10_append 2 (some .int) ∈ ax_WS := ax_wl ax_tm5 wdl_27_ok 24 rfl
theorem wd_1037 : Cond.methodLink RL 90 yX10_clearText ∈ ax_WS := ax_wl ax_tm5 wdl_27_ok 25 rfl
theorem wd_1038 : Cond.instanceMethod yX10_clearText ∈ ax_WS := ax_wl ax_tm5 wdl_27_ok 26 rfl
theorem wd_1039 : Cond.selects RX10 yX10_clearText yX10_clearText ∈ ax_WS := ax_wl ax_tm5 wdl_27_ok 27 rfl
theorem wd_1040 : Cond.code yX10_clearText cX10_clearText 2 (some .int) ∈ ax_WS := ax_wl ax_tm5 wdl_27_ok 28 rfl
theorem wd_1041 : Cond.methodLink RL 94 yX10_faultPosition ∈ ax_WS := ax_wl ax_tm5 wdl_27_ok 29 rfl
def wdl_28 : List Cond := [Cond.instanceMethod yX10_faultPosition, Cond.selects RX10 yX10_faultPosition yX10_faultPosition, Cond.code yX10_faultPosition cX10_faultPosition 1 (some .int), Cond.methodLink RX10 232 yX10_isText, Cond.instanceMethod yX10_isText, Cond.code yX10_isText cX10_isText 4 (some .boolean), Cond.methodLink RX10 226 yX10_begins, Cond.instanceMethod yX10_begins, Cond.code yX10_begins cX10_begins 2 (some .boolean), Cond.methodLink RX10 220 yX10_kindHere, Cond.instanceMethod yX10_kindHere, Cond.code yX10_kindHere cX10_kindHere 1 (some .int), Cond.methodLink RX10 196 yX10_here, Cond.instanceMethod yX10_here, Cond.code yX10_here cX10_here 1 (some .int), Cond.methodLink RX10 214 yX10_takes, Cond.instanceMethod yX10_takes, Cond.code yX10_takes cX10_takes 3 (some .boolean), Cond.methodLink RX10 229 yX10_ends, Cond.instanceMethod yX10_ends, Cond.code yX10_ends cX10_ends 10 (some .boolean), Cond.methodLink RX10 212 yX10_number, Cond.instanceMethod yX10_number, Cond.code yX10_number cX10_number 6 (some .boolean), Cond.methodLink RX10 199 yX10_isDigit, Cond.instanceMethod yX10_isDigit, Cond.code yX10_isDigit cX10_isDigit 1 (some .boolean), Cond.methodLink RX10 217 yX10_tells, Cond.instanceMethod yX10_tells, Cond.code yX10_tells cX10_tells 5 none]
theorem wdl_28_ok : wdl_28.all goodWord = true ∧ [31, 32, 33, 34, 36, 37, 38, 40, 41, 42, 44, 45, 46, 48, 49, 50, 52, 53, 54, 56, 57, 58, 60, 61, 62, 64, 65, 66, 68, 69].map (fun i => tables_1_5[i]?) = wdl_28.map some := by decide +kernel
theorem wd_1042 : Cond.instanceMethod yX10_faultPosition ∈ ax_WS := ax_wl ax_tm5 wdl_28_ok 0 rfl
theorem wd_1043 : Cond.selects RX10 yX10_faultPosition yX10_faultPosition ∈ ax_WS := ax_wl ax_tm5 wdl_28_ok 1 rfl
theorem wd_1044 : Cond.code yX10_faultPosition cX10_faultPosition 1 (some .int) ∈ ax_WS := ax_wl ax_tm5 wdl_28_ok 2 rfl
theorem wd_1045 : Cond.methodLink RX10 232 yX10_isText ∈ ax_WS := ax_wl ax_tm5 wdl_28_ok 3 rfl
theorem wd_1047 : Cond.instanceMethod yX10_isText ∈ ax_WS := ax_wl ax_tm5 wdl_28_ok 4 rfl
theorem wd_1048 : Cond.code yX10_isText cX10_isText 4 (some .boolean) ∈ ax_WS := ax_wl ax_tm5 wdl_28_ok 5 rfl
theorem wd_1049 : Cond.methodLink RX10 226 yX10_begins ∈ ax_WS := ax_wl ax_tm5 wdl_28_ok 6 rfl
theorem wd_1051 : Cond.instanceMethod yX10_begins ∈ ax_WS := ax_wl ax_tm5 wdl_28_ok 7 rfl
theorem wd_1052 : Cond.code yX10_begins cX10_begins 2 (some .boolean) ∈ ax_WS := ax_wl ax_tm5 wdl_28_ok 8 rfl
theorem wd_1053 : Cond.methodLink RX10 220 yX10_kindHere ∈ ax_WS := ax_wl ax_tm5 wdl_28_ok 9 rfl
theorem wd_1055 : Cond.instanceMethod yX10_kindHere ∈ ax_WS := ax_wl ax_tm5 wdl_28_ok 10 rfl
theorem wd_1056 : Cond.code yX10_kindHere cX10_kindHere 1 (some .int) ∈ ax_WS := ax_wl ax_tm5 wdl_28_ok 11 rfl
theorem wd_1057 : Cond.methodLink RX10 196 yX10_here ∈ ax_WS := ax_wl ax_tm5 wdl_28_ok 12 rfl
theorem wd_1059 : Cond.instanceMethod yX10_here ∈ ax_WS := ax_wl ax_tm5 wdl_28_ok 13 rfl
theorem wd_1060 : Cond.code yX10_here cX10_here 1 (some .int) ∈ ax_WS := ax_wl ax_tm5 wdl_28_ok 14 rfl
theorem wd_1061 : Cond.methodLink RX10 214 yX10_takes ∈ ax_WS := ax_wl ax_tm5 wdl_28_ok 15 rfl
theorem wd_1063 : Cond.instanceMethod yX10_takes ∈ ax_WS := ax_wl ax_tm5 wdl_28_ok 16 rfl
theorem wd_1064 : Cond.code yX10_takes cX10_takes 3 (some .boolean) ∈ ax_WS := ax_wl ax_tm5 wdl_28_ok 17 rfl
theorem wd_1065 : Cond.methodLink RX10 229 yX10_ends ∈ ax_WS := ax_wl ax_tm5 wdl_28_ok 18 rfl
theorem wd_1067 : Cond.instanceMethod yX10_ends ∈ ax_WS := ax_wl ax_tm5 wdl_28_ok 19 rfl
theorem wd_1068 : Cond.code yX10_ends cX10_ends 10 (some .boolean) ∈ ax_WS := ax_wl ax_tm5 wdl_28_ok 20 rfl
theorem wd_1069 : Cond.methodLink RX10 212 yX10_number ∈ ax_WS := ax_wl ax_tm5 wdl_28_ok 21 rfl
theorem wd_1071 : Cond.instanceMethod yX10_number ∈ ax_WS := ax_wl ax_tm5 wdl_28_ok 22 rfl
theorem wd_1072 : Cond.code yX10_number cX10_number 6 (some .boolean) ∈ ax_WS := ax_wl ax_tm5 wdl_28_ok 23 rfl
theorem wd_1073 : Cond.methodLink RX10 199 yX10_isDigit ∈ ax_WS := ax_wl ax_tm5 wdl_28_ok 24 rfl
theorem wd_1075 : Cond.instanceMethod yX10_isDigit ∈ ax_WS := ax_wl ax_tm5 wdl_28_ok 25 rfl
theorem wd_1076 : Cond.code yX10_isDigit cX10_isDigit 1 (some .boolean) ∈ ax_WS := ax_wl ax_tm5 wdl_28_ok 26 rfl
theorem wd_1077 : Cond.methodLink RX10 217 yX10_tells ∈ ax_WS := ax_wl ax_tm5 wdl_28_ok 27 rfl
theorem wd_1079 : Cond.instanceMethod yX10_tells ∈ ax_WS := ax_wl ax_tm5 wdl_28_ok 28 rfl
theorem wd_1080 : Cond.code yX10_tells cX10_tells 5 none ∈ ax_WS := ax_wl ax_tm5 wdl_28_ok 29 rfl
def wdl_29 : List Cond := [Cond.methodLink RL 98 yX10_faultDepth, Cond.instanceMethod yX10_faultDepth, Cond.selects RX10 yX10_faultDepth yX10_faultDepth, Cond.code yX10_faultDepth cX10_faultDepth 1 (some .int), Cond.methodLink RL 102 yX10_build, Cond.instanceMethod yX10_build, Cond.selects RX10 yX10_build yX10_build, Cond.code yX10_build cX10_build 6 (some .int), Cond.methodLink RL 106 yX10_save, Cond.instanceMethod yX10_save, Cond.selects RX10 yX10_save yX10_save, Cond.code yX10_save cX10_save 3 (some .int), Cond.methodLink RL 110 yX10_restore, Cond.instanceMethod yX10_restore, Cond.selects RX10 yX10_restore yX10_restore, Cond.code yX10_restore cX10_restore 3 (some .int), Cond.methodLink RL 115 yX10_checksum, Cond.instanceMethod yX10_checksum, Cond.selects RX10 yX10_checksum yX10_checksum, Cond.code yX10_checksum cX10_checksum 5 (some .long), Cond.constantLong RX10 237 (127), Cond.methodLink RX10 239 yX10_more, Cond.static yX10_more, Cond.code yX10_more cX10_more 3 (some .long), Cond.constantLong RX10 235 (31), Cond.fieldLink RJ0 15 RJ0 "coder" "B", Cond.fieldLink RJ0 9 RJ0 "value" "[B"]
theorem wdl_29_ok : wdl_29.all goodWord = true ∧ [70, 71, 72, 73, 74, 75, 76, 77, 78, 79, 80, 81, 82, 83, 84, 85, 86, 87, 88, 89, 90, 91, 92, 93, 94, 95, 96].map (fun i => tables_1_5[i]?) = wdl_29.map some := by decide +kernel
theorem wd_1081 : Cond.methodLink RL 98 yX10_faultDepth ∈ ax_WS := ax_wl ax_tm5 wdl_29_ok 0 rfl
theorem wd_1082 : Cond.instanceMethod yX10_faultDepth ∈ ax_WS := ax_wl ax_tm5 wdl_29_ok 1 rfl
theorem wd_1083 : Cond.selects RX10 yX10_faultDepth yX10_faultDepth ∈ ax_WS := ax_wl ax_tm5 wdl_29_ok 2 rfl
theorem wd_1084 : Cond.code yX10_faultDepth cX10_faultDepth 1 (some .int) ∈ ax_WS := ax_wl ax_tm5 wdl_29_ok 3 rfl
theorem wd_1085 : Cond.methodLink RL 102 yX10_build ∈ ax_WS := ax_wl ax_tm5 wdl_29_ok 4 rfl
theorem wd_1086 : Cond.instanceMethod yX10_build ∈ ax_WS := ax_wl ax_tm5 wdl_29_ok 5 rfl
theorem wd_1087 : Cond.selects RX10 yX10_build yX10_build ∈ ax_WS := ax_wl ax_tm5 wdl_29_ok 6 rfl
theorem wd_1088 : Cond.code yX10_build cX10_build 6 (some .int) ∈ ax_WS := ax_wl ax_tm5 wdl_29_ok 7 rfl
theorem wd_1089 : Cond.methodLink RL 106 yX10_save ∈ ax_WS := ax_wl ax_tm5 wdl_29_ok 8 rfl
theorem wd_1090 : Cond.instanceMethod yX10_save ∈ ax_WS := ax_wl ax_tm5 wdl_29_ok 9 rfl
theorem wd_1091 : Cond.selects RX10 yX10_save yX10_save ∈ ax_WS := ax_wl ax_tm5 wdl_29_ok 10 rfl
theorem wd_1092 : Cond.code yX10_save cX10_save 3 (some .int) ∈ ax_WS := ax_wl ax_tm5 wdl_29_ok 11 rfl
theorem wd_1093 : Cond.methodLink RL 110 yX10_restore ∈ ax_WS := ax_wl ax_tm5 wdl_29_ok 12 rfl
theorem wd_1094 : Cond.instanceMethod yX10_restore ∈ ax_WS := ax_wl ax_tm5 wdl_29_ok 13 rfl
theorem wd_1095 : Cond.selects RX10 yX10_restore yX10_restore ∈ ax_WS := ax_wl ax_tm5 wdl_29_ok 14 rfl
theorem wd_1096 : Cond.code yX10_restore cX10_restore 3 (some .int) ∈ ax_WS := ax_wl ax_tm5 wdl_29_ok 15 rfl
theorem wd_1097 : Cond.methodLink RL 115 yX10_checksum ∈ ax_WS := ax_wl ax_tm5 wdl_29_ok 16 rfl
theorem wd_1098 : Cond.instanceMethod yX10_checksum ∈ ax_WS := ax_wl ax_tm5 wdl_29_ok 17 rfl
theorem wd_1099 : Cond.selects RX10 yX10_checksum yX10_checksum ∈ ax_WS := ax_wl ax_tm5 wdl_29_ok 18 rfl
theorem wd_1100 : Cond.code yX10_checksum cX10_checksum 5 (some .long) ∈ ax_WS := ax_wl ax_tm5 wdl_29_ok 19 rfl
theorem wd_1101 : Cond.constantLong RX10 237 (127) ∈ ax_WS := ax_wl ax_tm5 wdl_29_ok 20 rfl
theorem wd_1102 : Cond.methodLink RX10 239 yX10_more ∈ ax_WS := ax_wl ax_tm5 wdl_29_ok 21 rfl
theorem wd_1103 : Cond.static yX10_more ∈ ax_WS := ax_wl ax_tm5 wdl_29_ok 22 rfl
theorem wd_1104 : Cond.code yX10_more cX10_more 3 (some .long) ∈ ax_WS := ax_wl ax_tm5 wdl_29_ok 23 rfl
theorem wd_1105 : Cond.constantLong RX10 235 (31) ∈ ax_WS := ax_wl ax_tm5 wdl_29_ok 24 rfl
theorem wd_1106 : Cond.fieldLink RJ0 15 RJ0 "coder" "B" ∈ ax_WS := ax_wl ax_tm5 wdl_29_ok 25 rfl
theorem wd_1107 : Cond.fieldLink RJ0 9 RJ0 "value" "[B" ∈ ax_WS := ax_wl ax_tm5 wdl_29_ok 26 rfl
def wnl_0 : List Cond := [Cond.methodLinkNest RX1 27 yX3_init RX9, Cond.methodLinkNest RX0 21 yX5_init RX9, Cond.methodLinkNest RX6 11 yX8_init RX9, Cond.methodLinkNest RX6 28 yX3_init RX9]
theorem wnl_0_ok : wnl_0.all ax_isN = true ∧ [37, 98, 155, 170].map (fun i => tables_1_1[i]?) = wnl_0.map some := by decide +kernel
theorem wn_88 : Cond.methodLinkNest RX1 27 yX3_init RX9 ∈ ax_NW := ax_nl ax_tm1 wnl_0_ok 0 rfl
theorem wn_149 : Cond.methodLinkNest RX0 21 yX5_init RX9 ∈ ax_NW := ax_nl ax_tm1 wnl_0_ok 1 rfl
theorem wn_206 : Cond.methodLinkNest RX6 11 yX8_init RX9 ∈ ax_NW := ax_nl ax_tm1 wnl_0_ok 2 rfl
theorem wn_221 : Cond.methodLinkNest RX6 28 yX3_init RX9 ∈ ax_NW := ax_nl ax_tm1 wnl_0_ok 3 rfl
def wnl_1 : List Cond := [Cond.methodLinkNest RX1 84 yX9_contains RX9, Cond.methodLinkNest RX1 32 yX9_isIn RX9, Cond.methodLinkNest RX0 48 yX9_isIn RX9, Cond.methodLinkNest RX0 52 yX9_contains RX9]
theorem wnl_1_ok : wnl_1.all ax_isN = true ∧ [26, 37, 73, 74].map (fun i => tables_1_2[i]?) = wnl_1.map some := by decide +kernel
theorem wn_317 : Cond.methodLinkNest RX1 84 yX9_contains RX9 ∈ ax_NW := ax_nl ax_tm2 wnl_1_ok 0 rfl
theorem wn_328 : Cond.methodLinkNest RX1 32 yX9_isIn RX9 ∈ ax_NW := ax_nl ax_tm2 wnl_1_ok 1 rfl
theorem wn_364 : Cond.methodLinkNest RX0 48 yX9_isIn RX9 ∈ ax_NW := ax_nl ax_tm2 wnl_1_ok 2 rfl
theorem wn_365 : Cond.methodLinkNest RX0 52 yX9_contains RX9 ∈ ax_NW := ax_nl ax_tm2 wnl_1_ok 3 rfl
def wnl_2 : List Cond := [Cond.methodLinkNest RX8 19 yX9_isIn RX9, Cond.methodLinkNest RX6 108 yX9_isIn RX9]
theorem wnl_2_ok : wnl_2.all ax_isN = true ∧ [44, 140].map (fun i => tables_1_3[i]?) = wnl_2.map some := by decide +kernel
theorem wn_575 : Cond.methodLinkNest RX8 19 yX9_isIn RX9 ∈ ax_NW := ax_nl ax_tm3 wnl_2_ok 0 rfl
theorem wn_671 : Cond.methodLinkNest RX6 108 yX9_isIn RX9 ∈ ax_NW := ax_nl ax_tm3 wnl_2_ok 1 rfl
end
section
section AXR
variable {M : ax_M} {d bc bs pc : Nat} {L : List (Option ax_V)} {st : List ax_V} {σ : ax_S} {z : Option ax_V × ax_S}

theorem ax_iconst {n : Int} {v : Int32} (hd : decode M.2.1 pc = .ok (.iconst n, 1)) (hv : Int32.ofInt n = v)
    (kk : AW M d bc bs (pc + 1) L (av_i v :: st) σ z) : AW M d bc bs pc L st σ z := by
  intro X p l e R s m args below meth c H locs cells slots Q ls C hc hs hH hS hL hE
  obtain ⟨hx, hb, hml, hown, hts, hret, hlk, hin, hdf, hdl, hok, hK, hG⟩ := id C
  exact lv_iconst hx hb hd hv (kk X p l e R s m args below meth c H locs cells slots Q ls C hc hs hH hS hL hE)

theorem ax_bipush {n : Int} {v : Int32} (hd : decode M.2.1 pc = .ok (.bipush n, 2)) (hv : (Int8.ofInt n).toInt32 = v)
    (kk : AW M d bc bs (pc + 2) L (av_i v :: st) σ z) : AW M d bc bs pc L st σ z := by
  intro X p l e R s m args below meth c H locs cells slots Q ls C hc hs hH hS hL hE
  obtain ⟨hx, hb, hml, hown, hts, hret, hlk, hin, hdf, hdl, hok, hK, hG⟩ := id C
  exact lv_bipush hx hb hd hv (kk X p l e R s m args below meth c H locs cells slots Q ls C hc hs hH hS hL hE)

theorem ax_sipush {n : Int} {v : Int32} (hd : decode M.2.1 pc = .ok (.sipush n, 3)) (hv : (Int16.ofInt n).toInt32 = v)
    (kk : AW M d bc bs (pc + 3) L (av_i v :: st) σ z) : AW M d bc bs pc L st σ z := by
  intro X p l e R s m args below meth c H locs cells slots Q ls C hc hs hH hS hL hE
  obtain ⟨hx, hb, hml, hown, hts, hret, hlk, hin, hdf, hdl, hok, hK, hG⟩ := id C
  exact lv_sipush hx hb hd hv (kk X p l e R s m args below meth c H locs cells slots Q ls C hc hs hH hS hL hE)

theorem ax_ldc2 {index : Nat} {v : Int64} (hd : decode M.2.1 pc = .ok (.ldc2_w index, 3)) (hw : Cond.constantLong M.1 index v ∈ ax_WS)
    (kk : AW M d bc bs (pc + 3) L (av_l v :: st) σ z) : AW M d bc bs pc L st σ z := by
  intro X p l e R s m args below meth c H locs cells slots Q ls C hc hs hH hS hL hE
  obtain ⟨hx, hb, hml, hown, hts, hret, hlk, hin, hdf, hdl, hok, hK, hG⟩ := id C
  exact lv_ldc2 hx hb hown (hts _ hw) hd (kk X p l e R s m args below meth c H locs cells slots Q ls C hc hs hH hS hL hE)

theorem ax_null (hd : decode M.2.1 pc = .ok (.aconst_null, 1))
    (kk : AW M d bc bs (pc + 1) L (av_r none :: st) σ z) : AW M d bc bs pc L st σ z := by
  intro X p l e R s m args below meth c H locs cells slots Q ls C hc hs hH hS hL hE
  obtain ⟨hx, hb, hml, hown, hts, hret, hlk, hin, hdf, hdl, hok, hK, hG⟩ := id C
  exact lv_null hx hb hd (kk X p l e R s m args below meth c H locs cells slots Q ls C hc hs hH hS hL hE)

theorem ax_iload_n {k : Fin 4} {i : Nat} {x : Int32} (hd : decode M.2.1 pc = .ok (.iload_n k, 1)) (hi : (k : Nat) = i) (hv : L[i]? = some (some (av_i x)))
    (kk : AW M d bc bs (pc + 1) L (av_i x :: st) σ z) : AW M d bc bs pc L st σ z := by
  intro X p l e R s m args below meth c H locs cells slots Q ls C hc hs hH hS hL hE
  obtain ⟨hx, hb, hml, hown, hts, hret, hlk, hin, hdf, hdl, hok, hK, hG⟩ := id C
  exact lv_iload_n hx hb hd hi (hL.2.2 i _ hv) (kk X p l e R s m args below meth c H locs cells slots Q ls C hc hs hH hS hL hE)

theorem ax_iload {i : Nat} {x : Int32} (hd : decode M.2.1 pc = .ok (.iload i, 2)) (hv : L[i]? = some (some (av_i x)))
    (kk : AW M d bc bs (pc + 2) L (av_i x :: st) σ z) : AW M d bc bs pc L st σ z := by
  intro X p l e R s m args below meth c H locs cells slots Q ls C hc hs hH hS hL hE
  obtain ⟨hx, hb, hml, hown, hts, hret, hlk, hin, hdf, hdl, hok, hK, hG⟩ := id C
  exact lv_iload hx hb hd (hL.2.2 i _ hv) (kk X p l e R s m args below meth c H locs cells slots Q ls C hc hs hH hS hL hE)

theorem ax_lload_n {k : Fin 4} {i : Nat} {x : Int64} (hd : decode M.2.1 pc = .ok (.lload_n k, 1)) (hi : (k : Nat) = i) (hv : L[i]? = some (some (av_l x)))
    (kk : AW M d bc bs (pc + 1) L (av_l x :: st) σ z) : AW M d bc bs pc L st σ z := by
  intro X p l e R s m args below meth c H locs cells slots Q ls C hc hs hH hS hL hE
  obtain ⟨hx, hb, hml, hown, hts, hret, hlk, hin, hdf, hdl, hok, hK, hG⟩ := id C
  exact lv_lload_n hx hb hd hi (hL.2.2 i _ hv) (kk X p l e R s m args below meth c H locs cells slots Q ls C hc hs hH hS hL hE)

theorem ax_lload {i : Nat} {x : Int64} (hd : decode M.2.1 pc = .ok (.lload i, 2)) (hv : L[i]? = some (some (av_l x)))
    (kk : AW M d bc bs (pc + 2) L (av_l x :: st) σ z) : AW M d bc bs pc L st σ z := by
  intro X p l e R s m args below meth c H locs cells slots Q ls C hc hs hH hS hL hE
  obtain ⟨hx, hb, hml, hown, hts, hret, hlk, hin, hdf, hdl, hok, hK, hG⟩ := id C
  exact lv_lload hx hb hd (hL.2.2 i _ hv) (kk X p l e R s m args below meth c H locs cells slots Q ls C hc hs hH hS hL hE)

theorem ax_aload_n {k : Fin 4} {i : Nat} {r : Option Nat} (hd : decode M.2.1 pc = .ok (.aload_n k, 1)) (hi : (k : Nat) = i) (hv : L[i]? = some (some (av_r r)))
    (kk : AW M d bc bs (pc + 1) L (av_r r :: st) σ z) : AW M d bc bs pc L st σ z := by
  intro X p l e R s m args below meth c H locs cells slots Q ls C hc hs hH hS hL hE
  obtain ⟨hx, hb, hml, hown, hts, hret, hlk, hin, hdf, hdl, hok, hK, hG⟩ := id C
  have h1 := hL.2.2 i _ hv
  have k1 := kk X p l e R s m args below meth c H locs cells slots Q ls C hc hs hH hS hL hE
  cases r with
  | none => exact lv_aload_nN hx hb hd hi h1 k1
  | some q => exact lv_aload_n hx hb hd hi h1 k1

theorem ax_aload {i : Nat} {r : Option Nat} (hd : decode M.2.1 pc = .ok (.aload i, 2)) (hv : L[i]? = some (some (av_r r)))
    (kk : AW M d bc bs (pc + 2) L (av_r r :: st) σ z) : AW M d bc bs pc L st σ z := by
  intro X p l e R s m args below meth c H locs cells slots Q ls C hc hs hH hS hL hE
  obtain ⟨hx, hb, hml, hown, hts, hret, hlk, hin, hdf, hdl, hok, hK, hG⟩ := id C
  have h1 := hL.2.2 i _ hv
  have k1 := kk X p l e R s m args below meth c H locs cells slots Q ls C hc hs hH hS hL hE
  cases r with
  | none => exact lv_aloadN hx hb hd  h1 k1
  | some q => exact lv_aload hx hb hd  h1 k1

theorem ax_istore_n {k : Fin 4} {i : Nat} {x : Int32} (hd : decode M.2.1 pc = .ok (.istore_n k, 1)) (hi : (k : Nat) = i) (hn : i < M.2.2.2.1) (hk : ax_st L i = true) {L2 : List (Option ax_V)} (hL2 : L.set i (some (av_i x)) = L2)
    (kk : AW M d bc bs (pc + 1) L2 st σ z) : AW M d bc bs pc L (av_i x :: st) σ z := by
  intro X p l e R s m args below meth c H locs cells slots Q ls C hc hs hH hS hL hE
  obtain ⟨hx, hb, hml, hown, hts, hret, hlk, hin, hdf, hdl, hok, hK, hG⟩ := id C
  exact lv_istore_n hx hb hd hi (ax_lv_has hL) hn rfl (fun ls' h' => kk X p l e R s m args below meth c H locs cells slots Q ls' C hc hs hH hS (hL2 ▸ ax_L.set1 hk h') hE)

theorem ax_istore {i : Nat} {x : Int32} (hd : decode M.2.1 pc = .ok (.istore i, 2)) (hn : i < M.2.2.2.1) (hk : ax_st L i = true) {L2 : List (Option ax_V)} (hL2 : L.set i (some (av_i x)) = L2)
    (kk : AW M d bc bs (pc + 2) L2 st σ z) : AW M d bc bs pc L (av_i x :: st) σ z := by
  intro X p l e R s m args below meth c H locs cells slots Q ls C hc hs hH hS hL hE
  obtain ⟨hx, hb, hml, hown, hts, hret, hlk, hin, hdf, hdl, hok, hK, hG⟩ := id C
  exact lv_istore hx hb hd (ax_lv_has hL) hn rfl (fun ls' h' => kk X p l e R s m args below meth c H locs cells slots Q ls' C hc hs hH hS (hL2 ▸ ax_L.set1 hk h') hE)

theorem ax_astore_n {k : Fin 4} {i : Nat} {r : Option Nat} (hd : decode M.2.1 pc = .ok (.astore_n k, 1)) (hi : (k : Nat) = i) (hn : i < M.2.2.2.1) (hk : ax_st L i = true) {L2 : List (Option ax_V)} (hL2 : L.set i (some (av_r r)) = L2)
    (kk : AW M d bc bs (pc + 1) L2 st σ z) : AW M d bc bs pc L (av_r r :: st) σ z := by
  intro X p l e R s m args below meth c H locs cells slots Q ls C hc hs hH hS hL hE
  obtain ⟨hx, hb, hml, hown, hts, hret, hlk, hin, hdf, hdl, hok, hK, hG⟩ := id C
  cases r with
  | none => exact lv_astore_nN hx hb hd hi (ax_lv_has hL) hn rfl (fun ls' h' => kk X p l e R s m args below meth c H locs cells slots Q ls' C hc hs hH hS (hL2 ▸ ax_L.set1 hk h') hE)
  | some q => exact lv_astore_n hx hb hd hi (ax_lv_has hL) hn rfl (fun ls' h' => kk X p l e R s m args below meth c H locs cells slots Q ls' C hc hs hH hS (hL2 ▸ ax_L.set1 hk h') hE)

theorem ax_astore {i : Nat} {r : Option Nat} (hd : decode M.2.1 pc = .ok (.astore i, 2)) (hn : i < M.2.2.2.1) (hk : ax_st L i = true) {L2 : List (Option ax_V)} (hL2 : L.set i (some (av_r r)) = L2)
    (kk : AW M d bc bs (pc + 2) L2 st σ z) : AW M d bc bs pc L (av_r r :: st) σ z := by
  intro X p l e R s m args below meth c H locs cells slots Q ls C hc hs hH hS hL hE
  obtain ⟨hx, hb, hml, hown, hts, hret, hlk, hin, hdf, hdl, hok, hK, hG⟩ := id C
  cases r with
  | none => exact lv_astoreN hx hb hd (ax_lv_has hL) hn rfl (fun ls' h' => kk X p l e R s m args below meth c H locs cells slots Q ls' C hc hs hH hS (hL2 ▸ ax_L.set1 hk h') hE)
  | some q => exact lv_astore hx hb hd (ax_lv_has hL) hn rfl (fun ls' h' => kk X p l e R s m args below meth c H locs cells slots Q ls' C hc hs hH hS (hL2 ▸ ax_L.set1 hk h') hE)

theorem ax_lstore_n {k : Fin 4} {i : Nat} {x : Int64} (hd : decode M.2.1 pc = .ok (.lstore_n k, 1)) (hi : (k : Nat) = i) (hn : i + 1 < M.2.2.2.1) (hk : ax_st L i = true) {L2 : List (Option ax_V)} (hL2 : (L.set i (some (av_l x))).set (i + 1) none = L2)
    (kk : AW M d bc bs (pc + 1) L2 st σ z) : AW M d bc bs pc L (av_l x :: st) σ z := by
  intro X p l e R s m args below meth c H locs cells slots Q ls C hc hs hH hS hL hE
  obtain ⟨hx, hb, hml, hown, hts, hret, hlk, hin, hdf, hdl, hok, hK, hG⟩ := id C
  exact lv_lstore_n hx hb hd hi (ax_lv_has hL) hn rfl (fun ls' h' => kk X p l e R s m args below meth c H locs cells slots Q ls' C hc hs hH hS (hL2 ▸ ax_L.set2 hk h') hE)

theorem ax_lstore {i : Nat} {x : Int64} (hd : decode M.2.1 pc = .ok (.lstore i, 2)) (hn : i + 1 < M.2.2.2.1) (hk : ax_st L i = true) {L2 : List (Option ax_V)} (hL2 : (L.set i (some (av_l x))).set (i + 1) none = L2)
    (kk : AW M d bc bs (pc + 2) L2 st σ z) : AW M d bc bs pc L (av_l x :: st) σ z := by
  intro X p l e R s m args below meth c H locs cells slots Q ls C hc hs hH hS hL hE
  obtain ⟨hx, hb, hml, hown, hts, hret, hlk, hin, hdf, hdl, hok, hK, hG⟩ := id C
  exact lv_lstore hx hb hd (ax_lv_has hL) hn rfl (fun ls' h' => kk X p l e R s m args below meth c H locs cells slots Q ls' C hc hs hH hS (hL2 ▸ ax_L.set2 hk h') hE)

theorem ax_iinc {i : Nat} {n : Int} {x v : Int32} (hd : decode M.2.1 pc = .ok (.iinc i n, 3)) (hv : L[i]? = some (some (av_i x))) (hv2 : x + Int32.ofInt n = v) (hn : i < M.2.2.2.1) (hk : ax_st L i = true) {L2 : List (Option ax_V)} (hL2 : L.set i (some (av_i v)) = L2)
    (kk : AW M d bc bs (pc + 3) L2 st σ z) : AW M d bc bs pc L st σ z := by
  intro X p l e R s m args below meth c H locs cells slots Q ls C hc hs hH hS hL hE
  obtain ⟨hx, hb, hml, hown, hts, hret, hlk, hin, hdf, hdl, hok, hK, hG⟩ := id C
  obtain ⟨k, hk2⟩ := List.getElem?_of_mem (ax_lv_mem.mpr ⟨_, hv, rfl⟩ : (i, Value.int x) ∈ ax_lv (ax_ρ X) L)
  exact lv_iinc hx hb hd (ax_lv_has hL) hk2 hv2 hn rfl (fun ls' h' => kk X p l e R s m args below meth c H locs cells slots Q ls' C hc hs hH hS (hL2 ▸ ax_L.set1 hk h') hE)

theorem ax_iadd {x y : Int32} (hd : decode M.2.1 pc = .ok (.iadd, 1))
    (kk : AW M d bc bs (pc + 1) L (av_i (x + y) :: st) σ z) : AW M d bc bs pc L (av_i y :: av_i x :: st) σ z := by
  intro X p l e R s m args below meth c H locs cells slots Q ls C hc hs hH hS hL hE
  obtain ⟨hx, hb, hml, hown, hts, hret, hlk, hin, hdf, hdl, hok, hK, hG⟩ := id C
  exact lv_iadd hx hb hd (kk X p l e R s m args below meth c H locs cells slots Q ls C hc hs hH hS hL hE)

theorem ax_isub {x y : Int32} (hd : decode M.2.1 pc = .ok (.isub, 1))
    (kk : AW M d bc bs (pc + 1) L (av_i (x - y) :: st) σ z) : AW M d bc bs pc L (av_i y :: av_i x :: st) σ z := by
  intro X p l e R s m args below meth c H locs cells slots Q ls C hc hs hH hS hL hE
  obtain ⟨hx, hb, hml, hown, hts, hret, hlk, hin, hdf, hdl, hok, hK, hG⟩ := id C
  exact lv_isub hx hb hd (kk X p l e R s m args below meth c H locs cells slots Q ls C hc hs hH hS hL hE)

theorem ax_imul {x y : Int32} (hd : decode M.2.1 pc = .ok (.imul, 1))
    (kk : AW M d bc bs (pc + 1) L (av_i (x * y) :: st) σ z) : AW M d bc bs pc L (av_i y :: av_i x :: st) σ z := by
  intro X p l e R s m args below meth c H locs cells slots Q ls C hc hs hH hS hL hE
  obtain ⟨hx, hb, hml, hown, hts, hret, hlk, hin, hdf, hdl, hok, hK, hG⟩ := id C
  exact lv_imul hx hb hd (kk X p l e R s m args below meth c H locs cells slots Q ls C hc hs hH hS hL hE)

theorem ax_iand {x y : Int32} (hd : decode M.2.1 pc = .ok (.iand, 1))
    (kk : AW M d bc bs (pc + 1) L (av_i (x &&& y) :: st) σ z) : AW M d bc bs pc L (av_i y :: av_i x :: st) σ z := by
  intro X p l e R s m args below meth c H locs cells slots Q ls C hc hs hH hS hL hE
  obtain ⟨hx, hb, hml, hown, hts, hret, hlk, hin, hdf, hdl, hok, hK, hG⟩ := id C
  exact lv_iand hx hb hd (kk X p l e R s m args below meth c H locs cells slots Q ls C hc hs hH hS hL hE)

theorem ax_ior {x y : Int32} (hd : decode M.2.1 pc = .ok (.ior, 1))
    (kk : AW M d bc bs (pc + 1) L (av_i (x ||| y) :: st) σ z) : AW M d bc bs pc L (av_i y :: av_i x :: st) σ z := by
  intro X p l e R s m args below meth c H locs cells slots Q ls C hc hs hH hS hL hE
  obtain ⟨hx, hb, hml, hown, hts, hret, hlk, hin, hdf, hdl, hok, hK, hG⟩ := id C
  exact lv_ior hx hb hd (kk X p l e R s m args below meth c H locs cells slots Q ls C hc hs hH hS hL hE)

theorem ax_ixor {x y : Int32} (hd : decode M.2.1 pc = .ok (.ixor, 1))
    (kk : AW M d bc bs (pc + 1) L (av_i (x ^^^ y) :: st) σ z) : AW M d bc bs pc L (av_i y :: av_i x :: st) σ z := by
  intro X p l e R s m args below meth c H locs cells slots Q ls C hc hs hH hS hL hE
  obtain ⟨hx, hb, hml, hown, hts, hret, hlk, hin, hdf, hdl, hok, hK, hG⟩ := id C
  exact lv_ixor hx hb hd (kk X p l e R s m args below meth c H locs cells slots Q ls C hc hs hH hS hL hE)

theorem ax_ishl {x y : Int32} (hd : decode M.2.1 pc = .ok (.ishl, 1))
    (kk : AW M d bc bs (pc + 1) L (av_i (x <<< (y &&& 31)) :: st) σ z) : AW M d bc bs pc L (av_i y :: av_i x :: st) σ z := by
  intro X p l e R s m args below meth c H locs cells slots Q ls C hc hs hH hS hL hE
  obtain ⟨hx, hb, hml, hown, hts, hret, hlk, hin, hdf, hdl, hok, hK, hG⟩ := id C
  exact lv_ishl hx hb hd (kk X p l e R s m args below meth c H locs cells slots Q ls C hc hs hH hS hL hE)

theorem ax_ishr {x y : Int32} (hd : decode M.2.1 pc = .ok (.ishr, 1))
    (kk : AW M d bc bs (pc + 1) L (av_i (x >>> (y &&& 31)) :: st) σ z) : AW M d bc bs pc L (av_i y :: av_i x :: st) σ z := by
  intro X p l e R s m args below meth c H locs cells slots Q ls C hc hs hH hS hL hE
  obtain ⟨hx, hb, hml, hown, hts, hret, hlk, hin, hdf, hdl, hok, hK, hG⟩ := id C
  exact lv_ishr hx hb hd (kk X p l e R s m args below meth c H locs cells slots Q ls C hc hs hH hS hL hE)

theorem ax_iushr {x y : Int32} (hd : decode M.2.1 pc = .ok (.iushr, 1))
    (kk : AW M d bc bs (pc + 1) L (av_i (x.toUInt32 >>> (y.toUInt32 &&& Int32.toUInt32 31)).toInt32 :: st) σ z) : AW M d bc bs pc L (av_i y :: av_i x :: st) σ z := by
  intro X p l e R s m args below meth c H locs cells slots Q ls C hc hs hH hS hL hE
  obtain ⟨hx, hb, hml, hown, hts, hret, hlk, hin, hdf, hdl, hok, hK, hG⟩ := id C
  exact lv_iushr hx hb hd rfl (kk X p l e R s m args below meth c H locs cells slots Q ls C hc hs hH hS hL hE)

theorem ax_ldc {index : Nat} {v : Int32} (hd : decode M.2.1 pc = .ok (.ldc index, 2)) (hw : Cond.constant M.1 index v ∈ ax_WS)
    (kk : AW M d bc bs (pc + 2) L (av_i v :: st) σ z) : AW M d bc bs pc L st σ z := by
  intro X p l e R s m args below meth c H locs cells slots Q ls C hc hs hH hS hL hE
  obtain ⟨hx, hb, hml, hown, hts, hret, hlk, hin, hdf, hdl, hok, hK, hG⟩ := id C
  exact lv_ldc hx hb hown (hts _ hw) hd (kk X p l e R s m args below meth c H locs cells slots Q ls C hc hs hH hS hL hE)

theorem ax_ldcw {index : Nat} {v : Int32} (hd : decode M.2.1 pc = .ok (.ldc_w index, 3)) (hw : Cond.constant M.1 index v ∈ ax_WS)
    (kk : AW M d bc bs (pc + 3) L (av_i v :: st) σ z) : AW M d bc bs pc L st σ z := by
  intro X p l e R s m args below meth c H locs cells slots Q ls C hc hs hH hS hL hE
  obtain ⟨hx, hb, hml, hown, hts, hret, hlk, hin, hdf, hdl, hok, hK, hG⟩ := id C
  exact lv_ldcw hx hb hown (hts _ hw) hd (kk X p l e R s m args below meth c H locs cells slots Q ls C hc hs hH hS hL hE)

theorem ax_idiv {x y : Int32} (hd : decode M.2.1 pc = .ok (.idiv, 1)) (h0 : ¬ y = 0)
    (kk : AW M d bc bs (pc + 1) L (av_i (x / y) :: st) σ z) : AW M d bc bs pc L (av_i y :: av_i x :: st) σ z := by
  intro X p l e R s m args below meth c H locs cells slots Q ls C hc hs hH hS hL hE
  obtain ⟨hx, hb, hml, hown, hts, hret, hlk, hin, hdf, hdl, hok, hK, hG⟩ := id C
  exact lv_idiv hx hb hd h0 (kk X p l e R s m args below meth c H locs cells slots Q ls C hc hs hH hS hL hE)

theorem ax_irem {x y : Int32} (hd : decode M.2.1 pc = .ok (.irem, 1)) (h0 : ¬ y = 0)
    (kk : AW M d bc bs (pc + 1) L (av_i (x - x / y * y) :: st) σ z) : AW M d bc bs pc L (av_i y :: av_i x :: st) σ z := by
  intro X p l e R s m args below meth c H locs cells slots Q ls C hc hs hH hS hL hE
  obtain ⟨hx, hb, hml, hown, hts, hret, hlk, hin, hdf, hdl, hok, hK, hG⟩ := id C
  exact lv_irem hx hb hd h0 (kk X p l e R s m args below meth c H locs cells slots Q ls C hc hs hH hS hL hE)

theorem ax_ineg {x : Int32} (hd : decode M.2.1 pc = .ok (.ineg, 1))
    (kk : AW M d bc bs (pc + 1) L (av_i (-x) :: st) σ z) : AW M d bc bs pc L (av_i x :: st) σ z := by
  intro X p l e R s m args below meth c H locs cells slots Q ls C hc hs hH hS hL hE
  obtain ⟨hx, hb, hml, hown, hts, hret, hlk, hin, hdf, hdl, hok, hK, hG⟩ := id C
  exact lv_ineg hx hb hd (kk X p l e R s m args below meth c H locs cells slots Q ls C hc hs hH hS hL hE)

theorem ax_ladd {x y : Int64} (hd : decode M.2.1 pc = .ok (.ladd, 1))
    (kk : AW M d bc bs (pc + 1) L (av_l (x + y) :: st) σ z) : AW M d bc bs pc L (av_l y :: av_l x :: st) σ z := by
  intro X p l e R s m args below meth c H locs cells slots Q ls C hc hs hH hS hL hE
  obtain ⟨hx, hb, hml, hown, hts, hret, hlk, hin, hdf, hdl, hok, hK, hG⟩ := id C
  exact lv_ladd hx hb hd (kk X p l e R s m args below meth c H locs cells slots Q ls C hc hs hH hS hL hE)

theorem ax_lmul {x y : Int64} (hd : decode M.2.1 pc = .ok (.lmul, 1))
    (kk : AW M d bc bs (pc + 1) L (av_l (x * y) :: st) σ z) : AW M d bc bs pc L (av_l y :: av_l x :: st) σ z := by
  intro X p l e R s m args below meth c H locs cells slots Q ls C hc hs hH hS hL hE
  obtain ⟨hx, hb, hml, hown, hts, hret, hlk, hin, hdf, hdl, hok, hK, hG⟩ := id C
  exact lv_lmul hx hb hd (kk X p l e R s m args below meth c H locs cells slots Q ls C hc hs hH hS hL hE)

theorem ax_lcmp {x y : Int64} (hd : decode M.2.1 pc = .ok (.lcmp, 1))
    (kk : AW M d bc bs (pc + 1) L (av_i (lg_cmp x y) :: st) σ z) : AW M d bc bs pc L (av_l y :: av_l x :: st) σ z := by
  intro X p l e R s m args below meth c H locs cells slots Q ls C hc hs hH hS hL hE
  obtain ⟨hx, hb, hml, hown, hts, hret, hlk, hin, hdf, hdl, hok, hK, hG⟩ := id C
  exact W.lcmp hx hb hd (kk X p l e R s m args below meth c H locs cells slots Q ls C hc hs hH hS hL hE)

theorem ax_i2l {x : Int32} (hd : decode M.2.1 pc = .ok (.i2l, 1))
    (kk : AW M d bc bs (pc + 1) L (av_l x.toInt64 :: st) σ z) : AW M d bc bs pc L (av_i x :: st) σ z := by
  intro X p l e R s m args below meth c H locs cells slots Q ls C hc hs hH hS hL hE
  obtain ⟨hx, hb, hml, hown, hts, hret, hlk, hin, hdf, hdl, hok, hK, hG⟩ := id C
  exact lv_i2l hx hb hd rfl (kk X p l e R s m args below meth c H locs cells slots Q ls C hc hs hH hS hL hE)

theorem ax_i2b {x : Int32} (hd : decode M.2.1 pc = .ok (.i2b, 1))
    (kk : AW M d bc bs (pc + 1) L (av_i x.toInt8.toInt32 :: st) σ z) : AW M d bc bs pc L (av_i x :: st) σ z := by
  intro X p l e R s m args below meth c H locs cells slots Q ls C hc hs hH hS hL hE
  obtain ⟨hx, hb, hml, hown, hts, hret, hlk, hin, hdf, hdl, hok, hK, hG⟩ := id C
  exact lv_i2b hx hb hd rfl (kk X p l e R s m args below meth c H locs cells slots Q ls C hc hs hH hS hL hE)

theorem ax_i2c {x : Int32} (hd : decode M.2.1 pc = .ok (.i2c, 1))
    (kk : AW M d bc bs (pc + 1) L (av_i (x.toUInt32 % 65536).toInt32 :: st) σ z) : AW M d bc bs pc L (av_i x :: st) σ z := by
  intro X p l e R s m args below meth c H locs cells slots Q ls C hc hs hH hS hL hE
  obtain ⟨hx, hb, hml, hown, hts, hret, hlk, hin, hdf, hdl, hok, hK, hG⟩ := id C
  exact lv_i2c hx hb hd rfl (kk X p l e R s m args below meth c H locs cells slots Q ls C hc hs hH hS hL hE)

theorem ax_dup {v : ax_V} (hd : decode M.2.1 pc = .ok (.dup, 1)) (h1 : (match v with | .inr (.inl _) => False | _ => True))
    (kk : AW M d bc bs (pc + 1) L (v :: v :: st) σ z) : AW M d bc bs pc L (v :: st) σ z := by
  intro X p l e R s m args below meth c H locs cells slots Q ls C hc hs hH hS hL hE
  obtain ⟨hx, hb, hml, hown, hts, hret, hlk, hin, hdf, hdl, hok, hK, hG⟩ := id C
  have hcat : (ax_cv (ax_ρ X) v).category = 1 := by
    rw [ax_cat]
    rcases v with x | x | r
    · rfl
    · exact absurd h1 id
    · rfl
  exact lv_dup hx hb hd hcat (kk X p l e R s m args below meth c H locs cells slots Q ls C hc hs hH hS hL hE)

theorem ax_pop {v : ax_V} (hd : decode M.2.1 pc = .ok (.pop, 1)) (h1 : (match v with | .inr (.inl _) => False | _ => True))
    (kk : AW M d bc bs (pc + 1) L st σ z) : AW M d bc bs pc L (v :: st) σ z := by
  intro X p l e R s m args below meth c H locs cells slots Q ls C hc hs hH hS hL hE
  obtain ⟨hx, hb, hml, hown, hts, hret, hlk, hin, hdf, hdl, hok, hK, hG⟩ := id C
  have hcat : (ax_cv (ax_ρ X) v).category = 1 := by
    rw [ax_cat]
    rcases v with x | x | r
    · rfl
    · exact absurd h1 id
    · rfl
  exact lv_pop hx hb hd hcat (kk X p l e R s m args below meth c H locs cells slots Q ls C hc hs hH hS hL hE)

theorem ax_dup2 {v w : ax_V} (hd : decode M.2.1 pc = .ok (.dup2, 1)) (h1 : (match v with | .inr (.inl _) => False | _ => True)) (h2 : (match w with | .inr (.inl _) => False | _ => True))
    (kk : AW M d bc bs (pc + 1) L (v :: w :: v :: w :: st) σ z) : AW M d bc bs pc L (v :: w :: st) σ z := by
  intro X p l e R s m args below meth c H locs cells slots Q ls C hc hs hH hS hL hE
  obtain ⟨hx, hb, hml, hown, hts, hret, hlk, hin, hdf, hdl, hok, hK, hG⟩ := id C
  have hcat : (ax_cv (ax_ρ X) v).category = 1 := by
    rw [ax_cat]
    rcases v with x | x | r
    · rfl
    · exact absurd h1 id
    · rfl
  have hcat2 : (ax_cv (ax_ρ X) w).category = 1 := by
    rw [ax_cat]
    rcases w with x | x | r
    · rfl
    · exact absurd h2 id
    · rfl
  exact lv_dup2_11 hx hb hd hcat hcat2 (kk X p l e R s m args below meth c H locs cells slots Q ls C hc hs hH hS hL hE)

theorem ax_dup_x1 {v w : ax_V} (hd : decode M.2.1 pc = .ok (.dup_x1, 1)) (h1 : (match v with | .inr (.inl _) => False | _ => True)) (h2 : (match w with | .inr (.inl _) => False | _ => True))
    (kk : AW M d bc bs (pc + 1) L (v :: w :: v :: st) σ z) : AW M d bc bs pc L (v :: w :: st) σ z := by
  intro X p l e R s m args below meth c H locs cells slots Q ls C hc hs hH hS hL hE
  obtain ⟨hx, hb, hml, hown, hts, hret, hlk, hin, hdf, hdl, hok, hK, hG⟩ := id C
  have hcat : (ax_cv (ax_ρ X) v).category = 1 := by
    rw [ax_cat]
    rcases v with x | x | r
    · rfl
    · exact absurd h1 id
    · rfl
  have hcat2 : (ax_cv (ax_ρ X) w).category = 1 := by
    rw [ax_cat]
    rcases w with x | x | r
    · rfl
    · exact absurd h2 id
    · rfl
  exact lv_dup_x1 hx hb hd hcat hcat2 (kk X p l e R s m args below meth c H locs cells slots Q ls C hc hs hH hS hL hE)

theorem ax_if_eq {x : Int32} {off : Int} {tgt : Nat} (hd : decode M.2.1 pc = .ok (.ifCond .eq off, 3)) (ht : (pc : Int) + off = (tgt : Int))
    (kt : x = 0 → AW M d bc bs tgt L st σ z) (kf : ¬ (x = 0) → AW M d bc bs (pc + 3) L st σ z) : AW M d bc bs pc L (av_i x :: st) σ z := by
  intro X p l e R s m args below meth c H locs cells slots Q ls C hc hs hH hS hL hE
  obtain ⟨hx, hb, hml, hown, hts, hret, hlk, hin, hdf, hdl, hok, hK, hG⟩ := id C
  exact lv_if_eq hx hb hd ht (fun h => kt h X p l e R s m args below meth c H locs cells slots Q ls C hc hs hH hS hL hE) (fun h => kf h X p l e R s m args below meth c H locs cells slots Q ls C hc hs hH hS hL hE)

theorem ax_if_ne {x : Int32} {off : Int} {tgt : Nat} (hd : decode M.2.1 pc = .ok (.ifCond .ne off, 3)) (ht : (pc : Int) + off = (tgt : Int))
    (kt : ¬ x = 0 → AW M d bc bs tgt L st σ z) (kf : x = 0 → AW M d bc bs (pc + 3) L st σ z) : AW M d bc bs pc L (av_i x :: st) σ z := by
  intro X p l e R s m args below meth c H locs cells slots Q ls C hc hs hH hS hL hE
  obtain ⟨hx, hb, hml, hown, hts, hret, hlk, hin, hdf, hdl, hok, hK, hG⟩ := id C
  exact lv_if_ne hx hb hd ht (fun h => kt h X p l e R s m args below meth c H locs cells slots Q ls C hc hs hH hS hL hE) (fun h => kf h X p l e R s m args below meth c H locs cells slots Q ls C hc hs hH hS hL hE)

theorem ax_if_lt {x : Int32} {off : Int} {tgt : Nat} (hd : decode M.2.1 pc = .ok (.ifCond .lt off, 3)) (ht : (pc : Int) + off = (tgt : Int))
    (kt : x < 0 → AW M d bc bs tgt L st σ z) (kf : ¬ (x < 0) → AW M d bc bs (pc + 3) L st σ z) : AW M d bc bs pc L (av_i x :: st) σ z := by
  intro X p l e R s m args below meth c H locs cells slots Q ls C hc hs hH hS hL hE
  obtain ⟨hx, hb, hml, hown, hts, hret, hlk, hin, hdf, hdl, hok, hK, hG⟩ := id C
  exact lv_if_lt hx hb hd ht (fun h => kt h X p l e R s m args below meth c H locs cells slots Q ls C hc hs hH hS hL hE) (fun h => kf h X p l e R s m args below meth c H locs cells slots Q ls C hc hs hH hS hL hE)

theorem ax_if_ge {x : Int32} {off : Int} {tgt : Nat} (hd : decode M.2.1 pc = .ok (.ifCond .ge off, 3)) (ht : (pc : Int) + off = (tgt : Int))
    (kt : 0 ≤ x → AW M d bc bs tgt L st σ z) (kf : ¬ (0 ≤ x) → AW M d bc bs (pc + 3) L st σ z) : AW M d bc bs pc L (av_i x :: st) σ z := by
  intro X p l e R s m args below meth c H locs cells slots Q ls C hc hs hH hS hL hE
  obtain ⟨hx, hb, hml, hown, hts, hret, hlk, hin, hdf, hdl, hok, hK, hG⟩ := id C
  exact lv_if_ge hx hb hd ht (fun h => kt h X p l e R s m args below meth c H locs cells slots Q ls C hc hs hH hS hL hE) (fun h => kf h X p l e R s m args below meth c H locs cells slots Q ls C hc hs hH hS hL hE)

theorem ax_if_gt {x : Int32} {off : Int} {tgt : Nat} (hd : decode M.2.1 pc = .ok (.ifCond .gt off, 3)) (ht : (pc : Int) + off = (tgt : Int))
    (kt : 0 < x → AW M d bc bs tgt L st σ z) (kf : ¬ (0 < x) → AW M d bc bs (pc + 3) L st σ z) : AW M d bc bs pc L (av_i x :: st) σ z := by
  intro X p l e R s m args below meth c H locs cells slots Q ls C hc hs hH hS hL hE
  obtain ⟨hx, hb, hml, hown, hts, hret, hlk, hin, hdf, hdl, hok, hK, hG⟩ := id C
  exact lv_if_gt hx hb hd ht (fun h => kt h X p l e R s m args below meth c H locs cells slots Q ls C hc hs hH hS hL hE) (fun h => kf h X p l e R s m args below meth c H locs cells slots Q ls C hc hs hH hS hL hE)

theorem ax_if_le {x : Int32} {off : Int} {tgt : Nat} (hd : decode M.2.1 pc = .ok (.ifCond .le off, 3)) (ht : (pc : Int) + off = (tgt : Int))
    (kt : x ≤ 0 → AW M d bc bs tgt L st σ z) (kf : ¬ (x ≤ 0) → AW M d bc bs (pc + 3) L st σ z) : AW M d bc bs pc L (av_i x :: st) σ z := by
  intro X p l e R s m args below meth c H locs cells slots Q ls C hc hs hH hS hL hE
  obtain ⟨hx, hb, hml, hown, hts, hret, hlk, hin, hdf, hdl, hok, hK, hG⟩ := id C
  exact lv_if_le hx hb hd ht (fun h => kt h X p l e R s m args below meth c H locs cells slots Q ls C hc hs hH hS hL hE) (fun h => kf h X p l e R s m args below meth c H locs cells slots Q ls C hc hs hH hS hL hE)

theorem ax_icmp_eq {x y : Int32} {off : Int} {tgt : Nat} (hd : decode M.2.1 pc = .ok (.if_icmp .eq off, 3)) (ht : (pc : Int) + off = (tgt : Int))
    (kt : x = y → AW M d bc bs tgt L st σ z) (kf : ¬ (x = y) → AW M d bc bs (pc + 3) L st σ z) : AW M d bc bs pc L (av_i y :: av_i x :: st) σ z := by
  intro X p l e R s m args below meth c H locs cells slots Q ls C hc hs hH hS hL hE
  obtain ⟨hx, hb, hml, hown, hts, hret, hlk, hin, hdf, hdl, hok, hK, hG⟩ := id C
  exact lv_icmp_eq hx hb hd ht (fun h => kt h X p l e R s m args below meth c H locs cells slots Q ls C hc hs hH hS hL hE) (fun h => kf h X p l e R s m args below meth c H locs cells slots Q ls C hc hs hH hS hL hE)

theorem ax_icmp_ne {x y : Int32} {off : Int} {tgt : Nat} (hd : decode M.2.1 pc = .ok (.if_icmp .ne off, 3)) (ht : (pc : Int) + off = (tgt : Int))
    (kt : ¬ x = y → AW M d bc bs tgt L st σ z) (kf : x = y → AW M d bc bs (pc + 3) L st σ z) : AW M d bc bs pc L (av_i y :: av_i x :: st) σ z := by
  intro X p l e R s m args below meth c H locs cells slots Q ls C hc hs hH hS hL hE
  obtain ⟨hx, hb, hml, hown, hts, hret, hlk, hin, hdf, hdl, hok, hK, hG⟩ := id C
  exact lv_icmp_ne hx hb hd ht (fun h => kt h X p l e R s m args below meth c H locs cells slots Q ls C hc hs hH hS hL hE) (fun h => kf h X p l e R s m args below meth c H locs cells slots Q ls C hc hs hH hS hL hE)

theorem ax_icmp_lt {x y : Int32} {off : Int} {tgt : Nat} (hd : decode M.2.1 pc = .ok (.if_icmp .lt off, 3)) (ht : (pc : Int) + off = (tgt : Int))
    (kt : x < y → AW M d bc bs tgt L st σ z) (kf : ¬ (x < y) → AW M d bc bs (pc + 3) L st σ z) : AW M d bc bs pc L (av_i y :: av_i x :: st) σ z := by
  intro X p l e R s m args below meth c H locs cells slots Q ls C hc hs hH hS hL hE
  obtain ⟨hx, hb, hml, hown, hts, hret, hlk, hin, hdf, hdl, hok, hK, hG⟩ := id C
  exact lv_icmp_lt hx hb hd ht (fun h => kt h X p l e R s m args below meth c H locs cells slots Q ls C hc hs hH hS hL hE) (fun h => kf h X p l e R s m args below meth c H locs cells slots Q ls C hc hs hH hS hL hE)

theorem ax_icmp_ge {x y : Int32} {off : Int} {tgt : Nat} (hd : decode M.2.1 pc = .ok (.if_icmp .ge off, 3)) (ht : (pc : Int) + off = (tgt : Int))
    (kt : y ≤ x → AW M d bc bs tgt L st σ z) (kf : ¬ (y ≤ x) → AW M d bc bs (pc + 3) L st σ z) : AW M d bc bs pc L (av_i y :: av_i x :: st) σ z := by
  intro X p l e R s m args below meth c H locs cells slots Q ls C hc hs hH hS hL hE
  obtain ⟨hx, hb, hml, hown, hts, hret, hlk, hin, hdf, hdl, hok, hK, hG⟩ := id C
  exact lv_icmp_ge hx hb hd ht (fun h => kt h X p l e R s m args below meth c H locs cells slots Q ls C hc hs hH hS hL hE) (fun h => kf h X p l e R s m args below meth c H locs cells slots Q ls C hc hs hH hS hL hE)

theorem ax_icmp_gt {x y : Int32} {off : Int} {tgt : Nat} (hd : decode M.2.1 pc = .ok (.if_icmp .gt off, 3)) (ht : (pc : Int) + off = (tgt : Int))
    (kt : y < x → AW M d bc bs tgt L st σ z) (kf : ¬ (y < x) → AW M d bc bs (pc + 3) L st σ z) : AW M d bc bs pc L (av_i y :: av_i x :: st) σ z := by
  intro X p l e R s m args below meth c H locs cells slots Q ls C hc hs hH hS hL hE
  obtain ⟨hx, hb, hml, hown, hts, hret, hlk, hin, hdf, hdl, hok, hK, hG⟩ := id C
  exact lv_icmp_gt hx hb hd ht (fun h => kt h X p l e R s m args below meth c H locs cells slots Q ls C hc hs hH hS hL hE) (fun h => kf h X p l e R s m args below meth c H locs cells slots Q ls C hc hs hH hS hL hE)

theorem ax_icmp_le {x y : Int32} {off : Int} {tgt : Nat} (hd : decode M.2.1 pc = .ok (.if_icmp .le off, 3)) (ht : (pc : Int) + off = (tgt : Int))
    (kt : x ≤ y → AW M d bc bs tgt L st σ z) (kf : ¬ (x ≤ y) → AW M d bc bs (pc + 3) L st σ z) : AW M d bc bs pc L (av_i y :: av_i x :: st) σ z := by
  intro X p l e R s m args below meth c H locs cells slots Q ls C hc hs hH hS hL hE
  obtain ⟨hx, hb, hml, hown, hts, hret, hlk, hin, hdf, hdl, hok, hK, hG⟩ := id C
  exact lv_icmp_le hx hb hd ht (fun h => kt h X p l e R s m args below meth c H locs cells slots Q ls C hc hs hH hS hL hE) (fun h => kf h X p l e R s m args below meth c H locs cells slots Q ls C hc hs hH hS hL hE)

theorem ax_goto {off : Int} {tgt : Nat} (hd : decode M.2.1 pc = .ok (.goto off, 3)) (ht : (pc : Int) + off = (tgt : Int)) (kk : AW M d bc bs tgt L st σ z) : AW M d bc bs pc L st σ z := by
  intro X p l e R s m args below meth c H locs cells slots Q ls C hc hs hH hS hL hE
  obtain ⟨hx, hb, hml, hown, hts, hret, hlk, hin, hdf, hdl, hok, hK, hG⟩ := id C
  exact lv_goto hx hb hd ht (kk X p l e R s m args below meth c H locs cells slots Q ls C hc hs hH hS hL hE)
theorem ax_ifnull {r : Option Nat} {off : Int} {tgt : Nat} (hd : decode M.2.1 pc = .ok (.ifnull off, 3)) (ht : (pc : Int) + off = (tgt : Int)) (kt : r = none → AW M d bc bs tgt L st σ z) (kf : ¬ (r = none) → AW M d bc bs (pc + 3) L st σ z) : AW M d bc bs pc L (av_r r :: st) σ z := by
  intro X p l e R s m args below meth c H locs cells slots Q ls C hc hs hH hS hL hE
  obtain ⟨hx, hb, hml, hown, hts, hret, hlk, hin, hdf, hdl, hok, hK, hG⟩ := id C
  cases r with
  | none => exact lv_ifnullN hx hb hd ht (kt rfl X p l e R s m args below meth c H locs cells slots Q ls C hc hs hH hS hL hE)
  | some q => exact lv_ifnull hx hb hd (kf (fun h => by cases h) X p l e R s m args below meth c H locs cells slots Q ls C hc hs hH hS hL hE)
theorem ax_ifnonnull {r : Option Nat} {off : Int} {tgt : Nat} (hd : decode M.2.1 pc = .ok (.ifnonnull off, 3)) (ht : (pc : Int) + off = (tgt : Int)) (kt : ¬ (r = none) → AW M d bc bs tgt L st σ z) (kf : ¬ ¬ (r = none) → AW M d bc bs (pc + 3) L st σ z) : AW M d bc bs pc L (av_r r :: st) σ z := by
  intro X p l e R s m args below meth c H locs cells slots Q ls C hc hs hH hS hL hE
  obtain ⟨hx, hb, hml, hown, hts, hret, hlk, hin, hdf, hdl, hok, hK, hG⟩ := id C
  cases r with
  | none => exact lv_ifnonnullN hx hb hd (kf (fun h => h rfl) X p l e R s m args below meth c H locs cells slots Q ls C hc hs hH hS hL hE)
  | some q => exact lv_ifnonnull hx hb hd ht (kt (fun h => by cases h) X p l e R s m args below meth c H locs cells slots Q ls C hc hs hH hS hL hE)
theorem ax_swOut {dflt lo hi : Int} {offs : Array Int} {len : Nat} {x : Int32} {tgt : Nat} (hd : decode M.2.1 pc = .ok (.tableswitch dflt lo hi offs, len)) (h : x.toInt < lo ∨ hi < x.toInt) (ht : (pc : Int) + dflt = (tgt : Int)) (kk : AW M d bc bs tgt L st σ z) : AW M d bc bs pc L (av_i x :: st) σ z := by
  intro X p l e R s m args below meth c H locs cells slots Q ls C hc hs hH hS hL hE
  obtain ⟨hx, hb, hml, hown, hts, hret, hlk, hin, hdf, hdl, hok, hK, hG⟩ := id C
  exact lv_tableOut hx hb hd h ht (kk X p l e R s m args below meth c H locs cells slots Q ls C hc hs hH hS hL hE)
theorem ax_swIn {dflt lo hi : Int} {offs : Array Int} {len : Nat} {x : Int32} {off : Int} {tgt : Nat} (hd : decode M.2.1 pc = .ok (.tableswitch dflt lo hi offs, len)) (h1 : ¬ x.toInt < lo) (h2 : ¬ hi < x.toInt) (ho : offs[(x.toInt - lo).toNat]? = some off) (ht : (pc : Int) + off = (tgt : Int)) (kk : AW M d bc bs tgt L st σ z) : AW M d bc bs pc L (av_i x :: st) σ z := by
  intro X p l e R s m args below meth c H locs cells slots Q ls C hc hs hH hS hL hE
  obtain ⟨hx, hb, hml, hown, hts, hret, hlk, hin, hdf, hdl, hok, hK, hG⟩ := id C
  exact lv_tableIn hx hb hd h1 h2 ho ht (kk X p l e R s m args below meth c H locs cells slots Q ls C hc hs hH hS hL hE)
/-- fewer known locals -/
def ax_sub : List (Option ax_V) → List (Option ax_V) → Prop
  | [], _ => True
  | none :: t, u => ax_sub t u.tail
  | some v :: t, u => u.head? = some (some v) ∧ ax_sub t u.tail
theorem ax_sub_at : ∀ {A B : List (Option ax_V)}, ax_sub A B → ∀ (i : Nat) (v : ax_V), A[i]? = some (some v) → B[i]? = some (some v)
  | [], _, _, i, v, h => by simp at h
  | none :: t, B, hs, i, v, h => by
    cases i with
    | zero => simp at h
    | succ j =>
      have h1 := ax_sub_at (A := t) (B := B.tail) hs j v h
      cases B with
      | nil => simp at h1
      | cons w u => exact h1
  | some a :: t, B, hs, i, v, h => by
    obtain ⟨h0, h2⟩ := hs
    cases B with
    | nil => simp at h0
    | cons w u =>
      cases i with
      | zero =>
        rw [List.getElem?_cons_zero] at h ⊢
        cases h
        exact h0
      | succ j => exact ax_sub_at (A := t) (B := u) h2 j v h
theorem ax_less {L' : List (Option ax_V)} (h : ax_sub L' L) (kk : AW M d bc bs pc L' st σ z) : AW M d bc bs pc L st σ z := by
  intro X p l e R s m args below meth c H locs cells slots Q ls C hc hs hH hS hL hE
  obtain ⟨hx, hb, hml, hown, hts, hret, hlk, hin, hdf, hdl, hok, hK, hG⟩ := id C
  exact kk X p l e R s m args below meth c H locs cells slots Q ls C hc hs hH hS ⟨hL.1, hL.2.1, fun i v hv => hL.2.2 i v (ax_sub_at h i v hv)⟩ hE
theorem ax_at_pc {pc2 : Nat} (h : pc2 = pc) (kk : AW M d bc bs pc2 L st σ z) : AW M d bc bs pc L st σ z := h ▸ kk
/-- a smaller room is enough -/
theorem ax_wide {bc2 bs2 : Nat} (h1 : bc2 ≤ bc) (h2 : bs2 ≤ bs) (kk : AW M d bc2 bs2 pc L st σ z) : AW M d bc bs pc L st σ z := by
  intro X p l e R s m args below meth c H locs cells slots Q ls C hc hs hH hS hL hE
  obtain ⟨hx, hb, hml, hown, hts, hret, hlk, hin, hdf, hdl, hok, hK, hG⟩ := id C
  exact kk X p l e R s m args below meth c H locs cells slots Q ls C (by omega) (by omega) hH hS hL hE
/-- the end -/
theorem ax_ret (hd : decode M.2.1 pc = .ok (ax_ri M.2.2.1, 1)) (h : (st, σ) = (z.1.toList, z.2)) : AW M d bc bs pc L st σ z := by
  intro X p l e R s m args below meth c H locs cells slots Q ls C hc hs hH hS hL hE
  obtain ⟨hx, hb, hml, hown, hts, hret, hlk, hin, hdf, hdl, hok, hK, hG⟩ := id C
  cases h
  exact W.widen (by omega) (by omega) (hE pc ls H locs hH hS hd)
/-- a store into a local, the locals as they are then -/
def ax_bd {α β : Type} (x : α) (f : α → β) : β := f x
theorem ax_bdI {ρ : Type} {q : ρ} {e : Int32} {f : Int32 → Option ρ} (h : ax_bd e f = some q) (kk : ∀ x : Int32, f x = some q → AW M d bc bs pc L (av_i x :: st) σ z) : AW M d bc bs pc L (av_i e :: st) σ z := kk e h
theorem ax_bdL {ρ : Type} {q : ρ} {e : Int64} {f : Int64 → Option ρ} (h : ax_bd e f = some q) (kk : ∀ x : Int64, f x = some q → AW M d bc bs pc L (av_l x :: st) σ z) : AW M d bc bs pc L (av_l e :: st) σ z := kk e h
theorem ax_bdR {ρ : Type} {q : ρ} {e : Option Nat} {f : Option Nat → Option ρ} (h : ax_bd e f = some q) (kk : ∀ x : Option Nat, f x = some q → AW M d bc bs pc L (av_r x :: st) σ z) : AW M d bc bs pc L (av_r e :: st) σ z := kk e h
theorem ax_bdS {ρ : Type} {q : ρ} {e : ax_S} {f : ax_S → Option ρ} (h : ax_bd e f = some q) (kk : ∀ x : ax_S, f x = some q → AW M d bc bs pc L st x z) : AW M d bc bs pc L st e z := kk e h
theorem ax_no {ρ : Type} {q : ρ} {P : Prop} (h : (none : Option ρ) = some q) : P := by cases h
theorem ax_reti {x : Int32} {q : Int32 × ax_S} (hd : decode M.2.1 pc = .ok (ax_ri M.2.2.1, 1)) (h : some (x, σ) = some q) : AW M d bc bs pc L [av_i x] σ (some (av_i q.1), q.2) := by
  cases h
  exact ax_ret hd rfl
theorem ax_retl {x : Int64} {q : Int64 × ax_S} (hd : decode M.2.1 pc = .ok (ax_ri M.2.2.1, 1)) (h : some (x, σ) = some q) : AW M d bc bs pc L [av_l x] σ (some (av_l q.1), q.2) := by
  cases h
  exact ax_ret hd rfl
theorem ax_retr {x : Option Nat} {q : Option Nat × ax_S} (hd : decode M.2.1 pc = .ok (ax_ri M.2.2.1, 1)) (h : some (x, σ) = some q) : AW M d bc bs pc L [av_r x] σ (some (av_r q.1), q.2) := by
  cases h
  exact ax_ret hd rfl
theorem ax_retv {q : ax_S} (hd : decode M.2.1 pc = .ok (ax_ri M.2.2.1, 1)) (h : some σ = some q) : AW M d bc bs pc L [] σ (none, q) := by
  cases h
  exact ax_ret hd rfl
theorem ax_swC {dflt lo hi : Int} {offs : Array Int} {len : Nat} {x v : Int32} {c off : Int} {tgt : Nat} (hd : decode M.2.1 pc = .ok (.tableswitch dflt lo hi offs, len)) (hxv : x = v) (hv : v.toInt = c) (h1 : lo ≤ c) (h2 : c ≤ hi) (ho : offs[(c - lo).toNat]? = some off) (ht : (pc : Int) + off = (tgt : Int)) (kk : AW M d bc bs tgt L st σ z) : AW M d bc bs pc L (av_i x :: st) σ z := by
  subst hxv
  subst hv
  exact ax_swIn hd (by omega) (by omega) ho ht kk
theorem ax_swD {dflt lo hi : Int} {offs : Array Int} {len : Nat} {x : Int32} {tgt : Nat} (hd : decode M.2.1 pc = .ok (.tableswitch dflt lo hi offs, len)) (hall : ∀ c : Int, lo ≤ c → c ≤ hi → offs[(c - lo).toNat]? = some dflt ∨ x ≠ Int32.ofInt c) (ht : (pc : Int) + dflt = (tgt : Int)) (kk : AW M d bc bs tgt L st σ z) : AW M d bc bs pc L (av_i x :: st) σ z := by
  by_cases h1 : x.toInt < lo ∨ hi < x.toInt
  · exact ax_swOut hd h1 ht kk
  · rcases hall x.toInt (by omega) (by omega) with h | h
    · exact ax_swIn hd (by omega) (by omega) h ht kk
    · exact absurd (Int32.ofInt_toInt x).symm h
theorem ax_ne_of {x : Int32} {u : Unit} (h : (if x = 0 then none else some ()) = some u) : ¬ x = 0 := by
  intro e
  rw [if_pos e] at h
  cases h
end AXR
end
section
/-! ===== the store's own operations, and the heap's rules ===== -/
def ax_u2 {α : Type} (f : Nat → Nat → α) (a k : Nat) (x : α) : Nat → Nat → α := fun b j => if b = a ∧ j = k then x else f b j
theorem ax_u2_ne {α : Type} {f : Nat → Nat → α} {a k b : Nat} {x : α} (h : b ≠ a) (j : Nat) : ax_u2 f a k x b j = f b j := if_neg (fun q => h q.1)
theorem ax_u2_nk {α : Type} {f : Nat → Nat → α} {a k b j : Nat} {x : α} (h : j ≠ k) : ax_u2 f a k x b j = f b j := if_neg (fun q => h q.2)
theorem ax_u2_self {α : Type} {f : Nat → Nat → α} {a k : Nat} {x : α} : ax_u2 f a k x a k = x := if_pos ⟨rfl, rfl⟩
/-- the address of an object or array of a kind, and its length -/
def ax_sh (σ : ax_S) (t : Nat) (r : Option Nat) : Option (Nat × Nat) := match r with
  | none => none
  | some a => match σ.1[a]? with
    | none => none
    | some q => if q.1 = t then some (a, q.2) else none
theorem ax_sh_of {σ : ax_S} {t : Nat} {r : Option Nat} {a n : Nat} (h : ax_sh σ t r = some (a, n)) : r = some a ∧ σ.1[a]? = some (t, n) := by
  unfold ax_sh at h
  cases r with
  | none => simp at h
  | some b =>
    simp only at h
    split at h
    · cases h
    · rename_i q hq
      split at h
      · rename_i hqt
        cases h
        refine ⟨rfl, ?_⟩
        rw [hq, ← hqt]
      · cases h
/-- is it an object of this kind? -/
def ax_ck (σ : ax_S) (t : Nat) (r : Option Nat) : Option Unit := (ax_sh σ t r).map (fun _ => ())
def ax_gi (σ : ax_S) (t k : Nat) (r : Option Nat) : Option Int32 := (ax_sh σ t r).map (fun q => σ.2.1 q.1 k)
def ax_gr (σ : ax_S) (t k : Nat) (r : Option Nat) : Option (Option Nat) := (ax_sh σ t r).map (fun q => σ.2.2 q.1 k)
def ax_pi (σ : ax_S) (t k : Nat) (r : Option Nat) (x : Int32) : Option ax_S := (ax_sh σ t r).map (fun q => (σ.1, ax_u2 σ.2.1 q.1 k x, σ.2.2))
def ax_pr (σ : ax_S) (t k : Nat) (r v : Option Nat) : Option ax_S := (ax_sh σ t r).map (fun q => (σ.1, σ.2.1, ax_u2 σ.2.2 q.1 k v))
def ax_01 (x : Int32) : Option Int32 := if x = 0 ∨ x = 1 then some x else none
def ax_ne (x : Int32) : Option Unit := if x = 0 then none else some ()
/-- an array's place -/
def ax_ix (σ : ax_S) (t : Nat) (r : Option Nat) (i : Int32) : Option (Nat × Nat) := (ax_sh σ t r).bind (fun q => if i < 0 ∨ q.2 ≤ i.toNatClampNeg then none else some (q.1, i.toNatClampNeg))
def ax_al (σ : ax_S) (t : Nat) (r : Option Nat) (i : Int32) : Option Int32 := (ax_ix σ t r i).map (fun q => σ.2.1 q.1 q.2)
def ax_ar (σ : ax_S) (t : Nat) (r : Option Nat) (i : Int32) : Option (Option Nat) := (ax_ix σ t r i).map (fun q => σ.2.2 q.1 q.2)
def ax_as (σ : ax_S) (t : Nat) (r : Option Nat) (i x : Int32) : Option ax_S := (ax_ix σ t r i).bind (fun q => if q.1 < 9 then none else some (σ.1, ax_u2 σ.2.1 q.1 q.2 x, σ.2.2))
def ax_aw (σ : ax_S) (t : Nat) (r : Option Nat) (i : Int32) (v : Option Nat) : Option ax_S := (ax_ix σ t r i).bind (fun q => if q.1 < 9 then none else (ax_sh σ (t - 10) v).bind (fun _ => some (σ.1, σ.2.1, ax_u2 σ.2.2 q.1 q.2 v)))
def ax_ln (σ : ax_S) (t : Nat) (r : Option Nat) : Option Int32 := (ax_sh σ t r).map (fun q => Int32.ofNat q.2)
/-- a new cell -/
def ax_nw (σ : ax_S) (t n : Nat) : ax_S := (σ.1 ++ [(t, n)], (fun a k => if a = σ.1.length then 0 else σ.2.1 a k), (fun a k => if a = σ.1.length then none else σ.2.2 a k))
/-- System.arraycopy between two int arrays that differ -/
def ax_cy (σ : ax_S) (r : Option Nat) (sp : Int32) (w : Option Nat) (dp n : Int32) : Option ax_S :=
  (ax_sh σ 9 r).bind (fun q => (ax_sh σ 9 w).bind (fun u =>
    if u.1 < 9 ∨ q.1 < 9 ∨ q.1 = u.1 ∨ sp < 0 ∨ dp < 0 ∨ n < 0 ∨ q.2 < sp.toNatClampNeg + n.toNatClampNeg ∨ u.2 < dp.toNatClampNeg + n.toNatClampNeg then none
    else some (σ.1, (fun a k => if a = u.1 then va_cpy (σ.2.1 q.1) (σ.2.1 u.1) sp.toNatClampNeg dp.toNatClampNeg n.toNatClampNeg k else σ.2.1 a k), σ.2.2)))
theorem ax_ρ_ne {X : ax_X} (hok : ax_ok X) {a b : Nat} (ha : 9 ≤ a) (h : b ≠ a) : ax_ρ X b ≠ ax_ρ X a := by
  rw [hok.1 a ha]
  by_cases hb : 9 ≤ b
  · rw [hok.1 b hb]
    omega
  · have := hok.2 b (by omega)
    omega
theorem ax_ρ_A {X : ax_X} (hok : ax_ok X) {a : Nat} (ha : 9 ≤ a) : ax_A X (ax_ρ X a) := by
  show ax_b X ≤ _
  rw [hok.1 a ha]
  omega
theorem ax_at.kept {X : ax_X} {σ σ' : ax_S} {H H' : Heap} {b t n : Nat} (h : ax_at X σ H b t n) (hH : H'[ax_ρ X b]? = H[ax_ρ X b]?) (hi : ∀ k, σ'.2.1 b k = σ.2.1 b k) (hr : ∀ k, σ'.2.2 b k = σ.2.2 b k) : ax_at X σ' H' b t n := by
  have hsv : ∀ k, ax_sv σ' t b k = ax_sv σ t b k := fun k => by simp only [ax_sv, hi, hr]
  unfold ax_at at h ⊢
  split
  · rename_i h7
    rw [if_pos h7] at h
    obtain ⟨e, h1, h2, h3, h4⟩ := h
    exact ⟨e, hH.trans h1, h2, h3, fun j hj => by rw [hsv]; exact h4 j hj⟩
  · rename_i h7
    rw [if_neg h7] at h
    split
    · rename_i h8
      rwa [if_pos h8] at h
    · rename_i h8
      rw [if_neg h8] at h
      split
      · rename_i ht
        rw [if_pos ht] at h
        obtain ⟨r, h1, h2, h3⟩ := h
        exact ⟨r, h1, h2, (h3.kept hH).to (fun k _ => by rw [hsv])⟩
      · rename_i ht
        rw [if_neg ht] at h
        refine ⟨h.1, hH.trans (h.2.trans ?_)⟩
        congr 2
        funext j
        rw [hsv]
theorem ax_H.upd {X : ax_X} {σ σ' : ax_S} {H H' : Heap} {a : Nat} (hok : ax_ok X) (h : ax_H X σ H) (ha : 9 ≤ a) (hsh : σ'.1 = σ.1) (hz : H'.size = H.size) (ho : ∀ q : Nat, q ≠ ax_ρ X a → H'[q]? = H[q]?)
    (hi : ∀ b, b ≠ a → ∀ k, σ'.2.1 b k = σ.2.1 b k) (hr : ∀ b, b ≠ a → ∀ k, σ'.2.2 b k = σ.2.2 b k) (hat : ∀ t n, σ.1[a]? = some (t, n) → ax_at X σ' H' a t n) : ax_H X σ' H' := by
  refine ⟨by rw [hsh]; exact h.1, by rw [hz, hsh]; exact h.2.1, fun b t n hb => ?_⟩
  rw [hsh] at hb
  by_cases hba : b = a
  · subst hba
    exact hat t n hb
  · exact (h.2.2 b t n hb).kept (ho _ (ax_ρ_ne hok ha hba)) (hi b hba) (hr b hba)
/-- an object's cell -/
theorem ax_at_obj {X : ax_X} {σ : ax_S} {H : Heap} {a t n : Nat} (h : ax_at X σ H a t n) (ht : t < 8) : 9 ≤ a ∧ ∃ r : vw_C, vwCl[t]? = some r ∧ n = r.2.2 ∧ t_OB (ax_ρ X a) (X.1.1 t) r.2.2 (X.1.2 t) H (fun k => ax_cv (ax_ρ X) (ax_sv σ t a k)) := by
  unfold ax_at at h
  split at h
  · obtain ⟨e, -⟩ := h
    split at e <;> omega
  · split at h
    · omega
    · refine ⟨by omega, ?_⟩
      first | exact h | rwa [if_pos ht] at h
/-- an array's cell -/
theorem ax_at_arr {X : ax_X} {s : State} {σ : ax_S} {H : Heap} {a t n : Nat} (hK : ax_K X s) (h : ax_at X σ H a t n) (h8 : 8 ≤ t) (h14 : t < 14) : ∃ cell : Cell, H[ax_ρ X a]? = some cell ∧ s.isArrayOf cell (ax_ty t 0) ∧ cell.vm ≠ .unknown ∧ (n ≤ cell.slots.size ∧ cell.slots.size.toInt32 = Int32.ofNat n) ∧ (∀ j : Nat, j < n → cell.slots[j]? = some (ax_cv (ax_ρ X) (ax_sv σ t a j))) ∧ (9 ≤ a → cell = arrV (X.2.1 t) n (fun j => ax_cv (ax_ρ X) (ax_sv σ t a j))) := by
  unfold ax_at at h
  split at h
  · rename_i h7
    obtain ⟨e, h1, h2, h3, h4⟩ := h
    have hof := hK.2.2.1 a h7
    have e2 : ax_ty t 0 = if a = 7 then .byte else .int := by
      rw [e]
      split <;> rfl
    exact ⟨_, h1, by rw [e2]; exact hof, h3, h2, h4, fun q => by omega⟩
  · split at h
    · omega
    · rw [if_neg (by omega)] at h
      exact ⟨_, h.2, (hK.2.1 t h8 h14).1 n _, (fun q => by cases q), ⟨by rw [arrV_size]; exact Nat.le_refl _, by rw [arrV_size] <;> rfl⟩, fun j hj => arrV_read _ _ hj, fun _ => rfl⟩
theorem ax_isI_0 {t : Nat} (h8 : 8 ≤ t) (k : Nat) : ax_isI t k = ax_isI t 0 := by
  have : ax_ty t k = ax_ty t 0 := by
    unfold ax_ty
    split <;> first | omega | rfl
  unfold ax_isI
  rw [this]
theorem ax_S_put {X : ax_X} {H0 H H1 : Heap} {locs : List Loc} {a k : Nat} (hok : ax_ok X) (h : va_S (ax_A X) H0 H locs) (ha : 9 ≤ a) (z : H1.size = H.size) (oq : ∀ q : Nat, q ≠ ax_ρ X a → H1[q]? = H[q]?) : va_S (ax_A X) H0 H1 (locs ++ [⟨ax_ρ X a, k⟩]) := h.put z oq (ax_ρ_A hok ha)
theorem ax_ix_of {σ : ax_S} {t : Nat} {r : Option Nat} {i : Int32} {q : Nat × Nat} (h : ax_ix σ t r i = some q) : ∃ n, r = some q.1 ∧ σ.1[q.1]? = some (t, n) ∧ ¬ (i < 0 ∨ n ≤ i.toNatClampNeg) ∧ q.2 = i.toNatClampNeg := by
  unfold ax_ix at h
  obtain ⟨⟨a, n⟩, h1, h2⟩ := Option.bind_eq_some_iff.mp h
  split at h2
  · cases h2
  · rename_i hc
    cases h2
    obtain ⟨e1, e2⟩ := ax_sh_of h1
    exact ⟨n, e1, e2, hc, rfl⟩
end
section
/-! ===== rules over the heap ===== -/
theorem ax_in_cl (ws : List Cond) (h : ws.all (fun w => decide (w ∈ lw_tbl) && goodWord w) = true) : ∀ w ∈ ws, w ∈ ax_WS := by
  intro w hw
  have h1 := List.all_eq_true.mp h w hw
  simp only [Bool.and_eq_true, decide_eq_true_eq] at h1
  exact List.mem_filter.mpr h1
theorem ax_cl0 : ∀ w ∈ u_ws RX0 TX0 8, w ∈ ax_WS := ax_in_cl _ (by decide +kernel)
theorem ax_cl1 : ∀ w ∈ u_ws RX1 TX1 5, w ∈ ax_WS := ax_in_cl _ (by decide +kernel)
theorem ax_cl2 : ∀ w ∈ u_ws RX3 TX3 5, w ∈ ax_WS := ax_in_cl _ (by decide +kernel)
theorem ax_cl3 : ∀ w ∈ u_ws RX5 TX5 4, w ∈ ax_WS := ax_in_cl _ (by decide +kernel)
theorem ax_cl4 : ∀ w ∈ u_ws RX6 TX6 7, w ∈ ax_WS := ax_in_cl _ (by decide +kernel)
theorem ax_cl5 : ∀ w ∈ u_ws RX8 TX8 2, w ∈ ax_WS := ax_in_cl _ (by decide +kernel)
theorem ax_cl6 : ∀ w ∈ u_ws RX9 TX9 6, w ∈ ax_WS := ax_in_cl _ (by decide +kernel)
theorem ax_cl7 : ∀ w ∈ u_ws RX10 TX10 28, w ∈ ax_WS := ax_in_cl _ (by decide +kernel)
/-- what the tables say of a class of objects -/
theorem ax_cls {t : Nat} {q : vw_C} (h : vwCl[t]? = some q) : (∀ w ∈ u_ws q.1 q.2.1 q.2.2, w ∈ ax_WS) ∧ (∀ k, k < q.2.2 → parseFieldDescriptor (q.2.1 k).2.2.1 = some (ax_ty t k)) ∧ (∀ a, a < q.2.2 → ∀ b, b < q.2.2 → a ≠ b → (q.2.1 a).2.1 ≠ (q.2.1 b).2.1) := by
  match t, h with
  | 0, h => cases h; exact ⟨ax_cl0, tyX0_ok, nmX0⟩
  | 1, h => cases h; exact ⟨ax_cl1, tyX1_ok, nmX1⟩
  | 2, h => cases h; exact ⟨ax_cl2, tyX3_ok, nmX3⟩
  | 3, h => cases h; exact ⟨ax_cl3, tyX5_ok, nmX5⟩
  | 4, h => cases h; exact ⟨ax_cl4, tyX6_ok, nmX6⟩
  | 5, h => cases h; exact ⟨ax_cl5, tyX8_ok, nmX8⟩
  | 6, h => cases h; exact ⟨ax_cl6, tyX9_ok, nmX9⟩
  | 7, h => cases h; exact ⟨ax_cl7, tyX10_ok, nmX10⟩
  | t + 8, h => simp [vwCl] at h
section AXH
variable {M : ax_M} {d bc bs pc : Nat} {L : List (Option ax_V)} {st : List ax_V} {σ σ1 : ax_S} {z : Option ax_V × ax_S}
theorem ax_getI {index t k : Nat} {q : vw_C} {r : Option Nat} {x : Int32} (hd : decode M.2.1 pc = .ok (.getfield index, 3)) (hc : vwCl[t]? = some q) (hk : k < q.2.2) (hw : Cond.fieldLink M.1 index (q.2.1 k).1 (q.2.1 k).2.1 (q.2.1 k).2.2.1 ∈ ax_WS) (hI : ax_isI t k = true) (h : ax_gi σ t k r = some x)
    (kk : AW M d bc bs (pc + 3) L (av_i x :: st) σ z) : AW M d bc bs pc L (av_r r :: st) σ z := by
  intro X p l e R s m args below meth c H locs cells slots Q ls C hcs hs hH hS hL hE
  obtain ⟨hx, hb, hml, hown, hts, hret, hlk, hin, hdf, hdl, hok, hK, hG⟩ := id C
  obtain ⟨⟨a, n⟩, h1, h2⟩ := Option.map_eq_some_iff.mp h
  subst h2
  obtain ⟨rfl, hsh⟩ := ax_sh_of h1
  have ht : t < 8 := (List.getElem?_eq_some_iff.mp hc).1
  obtain ⟨h8, q', hc', -, cell, q1, q2, q3, q4⟩ := ax_at_obj (hH.2.2 a t n hsh) ht
  cases hc.symm.trans hc'
  obtain ⟨hcl, hty, hnm⟩ := ax_cls hc
  have hts' : ∀ w ∈ u_ws q.1 q.2.1 q.2.2, w.before args s = true := fun w hw => hts w (hcl w hw)
  obtain ⟨hSl, hfc, kC, hkC, hkind⟩ := hK.1.1 t _ hc
  obtain ⟨cf, kf, fi, f, hi, hsl⟩ := hSl k hk
  have hv : cell.slots[f.slot]? = some (.int (σ.2.1 a k)) := by
    rw [hsl, q4 k hk]
    simp only [ax_sv, hI, if_true]
    rfl
  exact W.getf hx hb hown (hts _ hw) hi (u_facts hfc hkC (u_lays hts' (fun w h => h) hk) hi).1 q1 (by rw [q3]; exact fun h => by cases h) hv rfl rfl hd (kk X p l e R s m args below meth c H locs cells slots Q ls C hcs hs hH hS hL hE)
theorem ax_getR {index t k : Nat} {q : vw_C} {r x : Option Nat} (hd : decode M.2.1 pc = .ok (.getfield index, 3)) (hc : vwCl[t]? = some q) (hk : k < q.2.2) (hw : Cond.fieldLink M.1 index (q.2.1 k).1 (q.2.1 k).2.1 (q.2.1 k).2.2.1 ∈ ax_WS) (hI : ax_isI t k = false) (h : ax_gr σ t k r = some x)
    (kk : AW M d bc bs (pc + 3) L (av_r x :: st) σ z) : AW M d bc bs pc L (av_r r :: st) σ z := by
  intro X p l e R s m args below meth c H locs cells slots Q ls C hcs hs hH hS hL hE
  obtain ⟨hx, hb, hml, hown, hts, hret, hlk, hin, hdf, hdl, hok, hK, hG⟩ := id C
  obtain ⟨⟨a, n⟩, h1, h2⟩ := Option.map_eq_some_iff.mp h
  subst h2
  obtain ⟨rfl, hsh⟩ := ax_sh_of h1
  have ht : t < 8 := (List.getElem?_eq_some_iff.mp hc).1
  obtain ⟨h8, q', hc', -, cell, q1, q2, q3, q4⟩ := ax_at_obj (hH.2.2 a t n hsh) ht
  cases hc.symm.trans hc'
  obtain ⟨hcl, hty, hnm⟩ := ax_cls hc
  have hts' : ∀ w ∈ u_ws q.1 q.2.1 q.2.2, w.before args s = true := fun w hw => hts w (hcl w hw)
  obtain ⟨hSl, hfc, kC, hkC, hkind⟩ := hK.1.1 t _ hc
  obtain ⟨cf, kf, fi, f, hi, hsl⟩ := hSl k hk
  have hv : cell.slots[f.slot]? = some (ax_cv (ax_ρ X) (av_r (σ.2.2 a k))) := by
    rw [hsl, q4 k hk]
    simp only [ax_sv, hI]
    rfl
  exact W.getf hx hb hown (hts _ hw) hi (u_facts hfc hkC (u_lays hts' (fun w h => h) hk) hi).1 q1 (by rw [q3]; exact fun h => by cases h) hv rfl rfl hd (kk X p l e R s m args below meth c H locs cells slots Q ls C hcs hs hH hS hL hE)
/-- the object's cell behind a write -/
theorem ax_at_put {X : ax_X} {σ σ' : ax_S} {H' : Heap} {cell : Cell} {a t k : Nat} {q : vw_C} {v : ax_V} (h8 : 9 ≤ a) (ht : t < 8) (hc : vwCl[t]? = some q) (hk : k < q.2.2) (hap : ∀ x y, x < q.2.2 → y < q.2.2 → x ≠ y → X.1.2 t x ≠ X.1.2 t y) (q2 : cell.cls = X.1.1 t) (q3 : cell.vm = .none) (q4 : ∀ j, j < q.2.2 → cell.slots[X.1.2 t j]? = some (ax_cv (ax_ρ X) (ax_sv σ t a j)))
    (e1 : H'[ax_ρ X a]? = some (cell.setSlot (X.1.2 t k) (ax_cv (ax_ρ X) v))) (hv : ∀ j, j < q.2.2 → ax_sv σ' t a j = if j = k then v else ax_sv σ t a j) : ax_at X σ' H' a t q.2.2 := by
  unfold ax_at
  rw [if_neg (by omega), if_neg (by omega), if_pos ht]
  refine ⟨q, hc, rfl, t_OB.to (V := updV (fun j => ax_cv (ax_ρ X) (ax_sv σ t a j)) k (ax_cv (ax_ρ X) v)) ⟨_, e1, q2, q3, t_set q4 hap hk _⟩ (fun j hj => ?_)⟩
  rw [hv j hj]
  unfold updV
  split <;> rfl
theorem ax_putI {index t k : Nat} {q : vw_C} {r : Option Nat} {x : Int32} (hd : decode M.2.1 pc = .ok (.putfield index, 3)) (hc : vwCl[t]? = some q) (hk : k < q.2.2) (hw : Cond.fieldLink M.1 index (q.2.1 k).1 (q.2.1 k).2.1 (q.2.1 k).2.2.1 ∈ ax_WS) (hI : ax_isI t k = true) (hfin : (q.2.1 k).2.2.2 = false) (hfit : narrow (ax_ty t k) (.int x) = .int x ∧ fits (ax_ty t k) (.int x) = true) (h : ax_pi σ t k r x = some σ1)
    (kk : AW M d bc bs (pc + 3) L st σ1 z) : AW M d bc bs pc L (av_i x :: av_r r :: st) σ z := by
  intro X p l e R s m args below meth c H locs cells slots Q ls C hcs hs hH hS hL hE
  obtain ⟨hx, hb, hml, hown, hts, hret, hlk, hin, hdf, hdl, hok, hK, hG⟩ := id C
  obtain ⟨⟨a, n⟩, h1, h2⟩ := Option.map_eq_some_iff.mp h
  subst h2
  obtain ⟨rfl, hsh⟩ := ax_sh_of h1
  have ht : t < 8 := (List.getElem?_eq_some_iff.mp hc).1
  obtain ⟨h8, q', hc', hn, cell, q1, q2, q3, q4⟩ := ax_at_obj (hH.2.2 a t n hsh) ht
  cases hc.symm.trans hc'
  obtain ⟨hcl, hty, hnm⟩ := ax_cls hc
  have hts' : ∀ w ∈ u_ws q.1 q.2.1 q.2.2, w.before args s = true := fun w hw => hts w (hcl w hw)
  have hap := va_apart (own := M.1) hts' (fun w h => h) _ hty hnm hK.1 hc
  obtain ⟨hSl, hfc, kC, hkC, hkind⟩ := hK.1.1 t _ hc
  obtain ⟨cf, kf, fi, f, hi, hsl⟩ := hSl k hk
  have hlay := hts' _ (u_in_lay hk)
  unfold u_lay at hlay
  rw [if_neg (by rw [hfin]; decide)] at hlay
  have hst := (u_facts hfc hkC (u_lays hts' (fun w h => h) hk) hi).1
  have h6 := u_store hfc hkC hkind hlay hi (hty k hk) hfit.1 hfit.2
  refine W.putK hx hb (f := f) ⟨hown, hts _ hw, ⟨_, _, _, hi⟩, hst⟩ (by rw [q2]; exact h6) q1 q3 (by rw [hsl]; exact k2_hasslot (q4 k hk)) rfl rfl hd fun H' e1 e2 e3 => ?_
  rw [hsl] at e1 ⊢
  refine kk X p l e R s m args below meth c H' _ cells slots Q ls C hcs hs (hH.upd hok h8 rfl e2 e3 (fun b hb k' => ax_u2_ne hb k') (fun b hb k' => rfl) (fun t' n' hsh' => ?_)) (ax_S_put hok hS h8 e2 e3) hL hE
  cases hsh.symm.trans hsh'
  subst hn
  refine ax_at_put (v := av_i x) h8 ht hc hk hap q2 q3 q4 e1 (fun j hj => ?_)
  by_cases hjk : j = k
  · subst hjk
    simp [ax_sv, hI, ax_u2_self]
  · rw [if_neg hjk]
    simp only [ax_sv, ax_u2_nk hjk]
theorem ax_putRF {index t k : Nat} {q : vw_C} {r v : Option Nat} (hd : decode M.2.1 pc = .ok (.putfield index, 3)) (hc : vwCl[t]? = some q) (hk : k < q.2.2) (hw : Cond.fieldLink M.1 index (q.2.1 k).1 (q.2.1 k).2.1 (q.2.1 k).2.2.1 ∈ ax_WS) (hI : ax_isI t k = false) (hfin : (q.2.1 k).2.2.2 = true) (hini : M.2.2.2.2 = true) (hdecl : (q.2.1 k).1 = M.1) (hfit : ∀ w : Option Nat, narrow (ax_ty t k) (va_rf w) = va_rf w ∧ fits (ax_ty t k) (va_rf w) = true) (h : ax_pr σ t k r v = some σ1)
    (kk : AW M d bc bs (pc + 3) L st σ1 z) : AW M d bc bs pc L (av_r v :: av_r r :: st) σ z := by
  intro X p l e R s m args below meth c H locs cells slots Q ls C hcs hs hH hS hL hE
  obtain ⟨hx, hb, hml, hown, hts, hret, hlk, hin, hdf, hdl, hok, hK, hG⟩ := id C
  obtain ⟨⟨a, n⟩, h1, h2⟩ := Option.map_eq_some_iff.mp h
  subst h2
  obtain ⟨rfl, hsh⟩ := ax_sh_of h1
  have ht : t < 8 := (List.getElem?_eq_some_iff.mp hc).1
  obtain ⟨h8, q', hc', hn, cell, q1, q2, q3, q4⟩ := ax_at_obj (hH.2.2 a t n hsh) ht
  cases hc.symm.trans hc'
  obtain ⟨hcl, hty, hnm⟩ := ax_cls hc
  have hts' : ∀ w ∈ u_ws q.1 q.2.1 q.2.2, w.before args s = true := fun w hw => hts w (hcl w hw)
  have hap := va_apart (own := M.1) hts' (fun w h => h) _ hty hnm hK.1 hc
  obtain ⟨hSl, hfc, kC, hkC, hkind⟩ := hK.1.1 t _ hc
  obtain ⟨cf, kf, fi, f, hi, hsl⟩ := hSl k hk
  have hlay := hts' _ (u_in_lay hk)
  unfold u_lay at hlay
  rw [if_pos hfin] at hlay
  have hst := (u_facts hfc hkC (u_lays hts' (fun w h => h) hk) hi).1
  have hcf : m.cls = cf := by
    obtain ⟨_, _, c', _, _, _, -, -, hf', -, -, -, hown2, -⟩ := Cond.laysFinal_spec hlay
    have e1 : c' = cf := by have := hi.symm.trans hf'; simp at this; exact this.1.symm
    rw [hdecl] at hown2
    rw [← e1]; exact Option.some.inj (hown.symm.trans hown2)
  have h6 := u_fits hfc hkC hkind (u_lays hts' (fun w h => h) hk) hi (hty k hk) (hfit (v.map (ax_ρ X))).1 (hfit (v.map (ax_ρ X))).2
  refine W.putFinK hx hb hown (hts _ hw) hi hst hcf (hin hini) (by rw [q2]; exact h6) q1 q3 (by rw [hsl]; exact k2_hasslot (q4 k hk)) rfl rfl hd fun H' e1 e2 e3 => ?_
  rw [hsl] at e1 ⊢
  refine kk X p l e R s m args below meth c H' _ cells slots Q ls C hcs hs (hH.upd hok h8 rfl e2 e3 (fun b hb k' => rfl) (fun b hb k' => ax_u2_ne hb k') (fun t' n' hsh' => ?_)) (ax_S_put hok hS h8 e2 e3) hL hE
  cases hsh.symm.trans hsh'
  subst hn
  refine ax_at_put (v := av_r v) h8 ht hc hk hap q2 q3 q4 e1 (fun j hj => ?_)
  by_cases hjk : j = k
  · subst hjk
    simp [ax_sv, hI, ax_u2_self]
  · rw [if_neg hjk]
    simp only [ax_sv, ax_u2_nk hjk]
end AXH
end
section
/-! ===== arrays, new cells ===== -/
section AXA
variable {M : ax_M} {d bc bs pc : Nat} {L : List (Option ax_V)} {st : List ax_V} {σ σ1 : ax_S} {z : Option ax_V × ax_S}
theorem ax_iald {r : Option Nat} {i x : Int32} (hd : decode M.2.1 pc = .ok (.iaload, 1)) (h : ax_al σ 9 r i = some x) (kk : AW M d bc bs (pc + 1) L (av_i x :: st) σ z) : AW M d bc bs pc L (av_i i :: av_r r :: st) σ z := by
  intro X p l e R s m args below meth c H locs cells slots Q ls C hcs hs hH hS hL hE
  obtain ⟨hx, hb, hml, hown, hts, hret, hlk, hin, hdf, hdl, hok, hK, hG⟩ := id C
  obtain ⟨⟨a, j⟩, h1, h2⟩ := Option.map_eq_some_iff.mp h
  subst h2
  obtain ⟨n, rfl, hsh, hix, hj⟩ := ax_ix_of h1
  simp only at hsh hj ⊢
  subst hj
  obtain ⟨cell, g1, g2, g3, g4, g5, -⟩ := ax_at_arr hK (hH.2.2 _ _ n hsh) (by omega) (by omega)
  have hlt : i.toNatClampNeg < n := Nat.not_le.mp fun q => hix (Or.inr q)
  exact W.iald hx hb g1 g2 g3 (fun q => hix (q.imp id (fun z => Nat.le_trans g4.1 z))) (g5 _ hlt) rfl rfl hd (kk X p l e R s m args below meth c H locs cells slots Q ls C hcs hs hH hS hL hE)
theorem ax_bald {r : Option Nat} {i x : Int32} (hd : decode M.2.1 pc = .ok (.baload, 1)) (h : ax_al σ 8 r i = some x) (kk : AW M d bc bs (pc + 1) L (av_i x :: st) σ z) : AW M d bc bs pc L (av_i i :: av_r r :: st) σ z := by
  intro X p l e R s m args below meth c H locs cells slots Q ls C hcs hs hH hS hL hE
  obtain ⟨hx, hb, hml, hown, hts, hret, hlk, hin, hdf, hdl, hok, hK, hG⟩ := id C
  obtain ⟨⟨a, j⟩, h1, h2⟩ := Option.map_eq_some_iff.mp h
  subst h2
  obtain ⟨n, rfl, hsh, hix, hj⟩ := ax_ix_of h1
  simp only at hsh hj ⊢
  subst hj
  obtain ⟨cell, g1, g2, g3, g4, g5, -⟩ := ax_at_arr hK (hH.2.2 _ _ n hsh) (by omega) (by omega)
  have hlt : i.toNatClampNeg < n := Nat.not_le.mp fun q => hix (Or.inr q)
  exact W.bald hx hb g1 g2 g3 (fun q => hix (q.imp id (fun z => Nat.le_trans g4.1 z))) (g5 _ hlt) rfl rfl hd (kk X p l e R s m args below meth c H locs cells slots Q ls C hcs hs hH hS hL hE)
theorem ax_zald {r : Option Nat} {i x : Int32} (hd : decode M.2.1 pc = .ok (.baload, 1)) (h : ax_al σ 10 r i = some x) (kk : AW M d bc bs (pc + 1) L (av_i x :: st) σ z) : AW M d bc bs pc L (av_i i :: av_r r :: st) σ z := by
  intro X p l e R s m args below meth c H locs cells slots Q ls C hcs hs hH hS hL hE
  obtain ⟨hx, hb, hml, hown, hts, hret, hlk, hin, hdf, hdl, hok, hK, hG⟩ := id C
  obtain ⟨⟨a, j⟩, h1, h2⟩ := Option.map_eq_some_iff.mp h
  subst h2
  obtain ⟨n, rfl, hsh, hix, hj⟩ := ax_ix_of h1
  simp only at hsh hj ⊢
  subst hj
  obtain ⟨cell, g1, g2, g3, g4, g5, -⟩ := ax_at_arr hK (hH.2.2 _ _ n hsh) (by omega) (by omega)
  have hlt : i.toNatClampNeg < n := Nat.not_le.mp fun q => hix (Or.inr q)
  exact W.zald hx hb g1 g2 g3 (fun q => hix (q.imp id (fun z => Nat.le_trans g4.1 z))) (g5 _ hlt) rfl rfl hd (kk X p l e R s m args below meth c H locs cells slots Q ls C hcs hs hH hS hL hE)
theorem ax_aald {t : Nat} {r x : Option Nat} {i : Int32} (ht : 11 ≤ t ∧ t < 14) (hd : decode M.2.1 pc = .ok (.aaload, 1)) (h : ax_ar σ t r i = some x) (kk : AW M d bc bs (pc + 1) L (av_r x :: st) σ z) : AW M d bc bs pc L (av_i i :: av_r r :: st) σ z := by
  intro X p l e R s m args below meth c H locs cells slots Q ls C hcs hs hH hS hL hE
  obtain ⟨hx, hb, hml, hown, hts, hret, hlk, hin, hdf, hdl, hok, hK, hG⟩ := id C
  obtain ⟨⟨a, j⟩, h1, h2⟩ := Option.map_eq_some_iff.mp h
  subst h2
  obtain ⟨n, rfl, hsh, hix, hj⟩ := ax_ix_of h1
  simp only at hsh hj ⊢
  subst hj
  obtain ⟨cell, g1, g2, g3, g4, g5, -⟩ := ax_at_arr hK (hH.2.2 _ _ n hsh) (by omega) (by omega)
  have hlt : i.toNatClampNeg < n := Nat.not_le.mp fun q => hix (Or.inr q)
  have hI : ax_isI t i.toNatClampNeg = false ∧ (ax_ty t 0).isReference = true := by
    have : t = 11 ∨ t = 12 ∨ t = 13 := by omega
    rcases this with rfl | rfl | rfl <;> exact ⟨rfl, rfl⟩
  have g6 := g5 _ hlt
  simp only [ax_sv, hI.1] at g6
  exact W.aald hx hb g1 g2 hI.2 g3 (fun q => hix (q.imp id (fun z => Nat.le_trans g4.1 z))) g6 rfl rfl hd (kk X p l e R s m args below meth c H locs cells slots Q ls C hcs hs hH hS hL hE)
/-- the array's cell behind a write -/
theorem ax_at_ast {X : ax_X} {σ σ' : ax_S} {H' : Heap} {a t n j : Nat} {v : ax_V} (h8 : 9 ≤ a) (ht : 8 ≤ t) (h14 : t < 14) (e1 : H'[ax_ρ X a]? = some ((arrV (X.2.1 t) n (fun j => ax_cv (ax_ρ X) (ax_sv σ t a j))).setSlot j (ax_cv (ax_ρ X) v))) (hv : ∀ i, ax_sv σ' t a i = if i = j then v else ax_sv σ t a i) : ax_at X σ' H' a t n := by
  unfold ax_at
  rw [if_neg (by omega), if_neg (by omega), if_neg (by omega)]
  refine ⟨h14, e1.trans ?_⟩
  rw [arrV_store]
  congr 2
  funext i
  rw [hv i]
  unfold updV
  split <;> rfl
theorem ax_as_of {t : Nat} {r : Option Nat} {i x : Int32} (h : ax_as σ t r i x = some σ1) : ∃ a n, r = some a ∧ 9 ≤ a ∧ σ.1[a]? = some (t, n) ∧ ¬ (i < 0 ∨ n ≤ i.toNatClampNeg) ∧ σ1 = (σ.1, ax_u2 σ.2.1 a i.toNatClampNeg x, σ.2.2) := by
  obtain ⟨⟨a, j⟩, h1, h2⟩ := Option.bind_eq_some_iff.mp h
  obtain ⟨n, g1, g2, g3, g4⟩ := ax_ix_of h1
  simp only at g1 g2 g4 h2
  split at h2
  · cases h2
  · rename_i hn
    subst g4
    cases h2
    exact ⟨a, n, g1, by omega, g2, g3, rfl⟩
theorem ax_iast {r : Option Nat} {i x : Int32} (hd : decode M.2.1 pc = .ok (.iastore, 1)) (h : ax_as σ 9 r i x = some σ1) (kk : AW M d bc bs (pc + 1) L st σ1 z) : AW M d bc bs pc L (av_i x :: av_i i :: av_r r :: st) σ z := by
  intro X p l e R s m args below meth c H locs cells slots Q ls C hcs hs hH hS hL hE
  obtain ⟨hx, hb, hml, hown, hts, hret, hlk, hin, hdf, hdl, hok, hK, hG⟩ := id C
  obtain ⟨a, n, rfl, h8, hsh, hix, rfl⟩ := ax_as_of h
  obtain ⟨cell, g1, g2, g3, g4, -, g6⟩ := ax_at_arr hK (hH.2.2 a _ n hsh) (by omega) (by omega)
  refine W.iast hx hb g1 g2 g3 (fun q => hix (q.imp id (fun z => Nat.le_trans g4.1 z))) rfl rfl hd fun H' e1 e2 e3 => ?_
  refine kk X p l e R s m args below meth c H' _ cells slots Q ls C hcs hs (hH.upd hok h8 rfl e2 e3 (fun b hb k' => ax_u2_ne hb k') (fun b hb k' => rfl) (fun t' n' hsh' => ?_)) (ax_S_put hok hS h8 e2 e3) hL hE
  cases hsh.symm.trans hsh'
  rw [g6 h8] at e1
  refine ax_at_ast (v := av_i x) h8 (by omega) (by omega) e1 (fun j => ?_)
  have hI : ∀ k, ax_isI 9 k = true := fun k => rfl
  by_cases hjk : j = i.toNatClampNeg
  · subst hjk
    simp [ax_sv, hI, ax_u2_self]
  · rw [if_neg hjk]
    simp only [ax_sv, ax_u2_nk hjk]
theorem ax_bast {r : Option Nat} {i x : Int32} (hd : decode M.2.1 pc = .ok (.bastore, 1)) (h : ax_as σ 8 r i x.toInt8.toInt32 = some σ1) (kk : AW M d bc bs (pc + 1) L st σ1 z) : AW M d bc bs pc L (av_i x :: av_i i :: av_r r :: st) σ z := by
  intro X p l e R s m args below meth c H locs cells slots Q ls C hcs hs hH hS hL hE
  obtain ⟨hx, hb, hml, hown, hts, hret, hlk, hin, hdf, hdl, hok, hK, hG⟩ := id C
  obtain ⟨a, n, rfl, h8, hsh, hix, rfl⟩ := ax_as_of h
  obtain ⟨cell, g1, g2, g3, g4, -, g6⟩ := ax_at_arr hK (hH.2.2 a _ n hsh) (by omega) (by omega)
  refine W.bast hx hb g1 g2 g3 (fun q => hix (q.imp id (fun z => Nat.le_trans g4.1 z))) rfl rfl hd fun H' e1 e2 e3 => ?_
  refine kk X p l e R s m args below meth c H' _ cells slots Q ls C hcs hs (hH.upd hok h8 rfl e2 e3 (fun b hb k' => ax_u2_ne hb k') (fun b hb k' => rfl) (fun t' n' hsh' => ?_)) (ax_S_put hok hS h8 e2 e3) hL hE
  cases hsh.symm.trans hsh'
  rw [g6 h8] at e1
  refine ax_at_ast (v := av_i x.toInt8.toInt32) h8 (by omega) (by omega) e1 (fun j => ?_)
  have hI : ∀ k, ax_isI 8 k = true := fun k => rfl
  by_cases hjk : j = i.toNatClampNeg
  · subst hjk
    simp [ax_sv, hI, ax_u2_self]
  · rw [if_neg hjk]
    simp only [ax_sv, ax_u2_nk hjk]
theorem ax_zast {r : Option Nat} {i x : Int32} (hd : decode M.2.1 pc = .ok (.bastore, 1)) (h1 : narrow .boolean (.int x) = .int x) (h : ax_as σ 10 r i x = some σ1) (kk : AW M d bc bs (pc + 1) L st σ1 z) : AW M d bc bs pc L (av_i x :: av_i i :: av_r r :: st) σ z := by
  intro X p l e R s m args below meth c H locs cells slots Q ls C hcs hs hH hS hL hE
  obtain ⟨hx, hb, hml, hown, hts, hret, hlk, hin, hdf, hdl, hok, hK, hG⟩ := id C
  obtain ⟨a, n, rfl, h8, hsh, hix, rfl⟩ := ax_as_of h
  obtain ⟨cell, g1, g2, g3, g4, -, g6⟩ := ax_at_arr hK (hH.2.2 a _ n hsh) (by omega) (by omega)
  refine W.zast hx hb g1 g2 g3 (fun q => hix (q.imp id (fun z => Nat.le_trans g4.1 z))) rfl rfl hd fun H' e1 e2 e3 => ?_
  refine kk X p l e R s m args below meth c H' _ cells slots Q ls C hcs hs (hH.upd hok h8 rfl e2 e3 (fun b hb k' => ax_u2_ne hb k') (fun b hb k' => rfl) (fun t' n' hsh' => ?_)) (ax_S_put hok hS h8 e2 e3) hL hE
  cases hsh.symm.trans hsh'
  rw [g6 h8, h1] at e1
  refine ax_at_ast (v := av_i x) h8 (by omega) (by omega) e1 (fun j => ?_)
  have hI : ∀ k, ax_isI 10 k = true := fun k => rfl
  by_cases hjk : j = i.toNatClampNeg
  · subst hjk
    simp [ax_sv, hI, ax_u2_self]
  · rw [if_neg hjk]
    simp only [ax_sv, ax_u2_nk hjk]
theorem ax_aast {t : Nat} {r v : Option Nat} {i : Int32} (ht : 11 ≤ t ∧ t < 14) (hq : (vwCl[t - 10]?).map (fun q => FieldType.object q.1) = some (ax_ty t 0)) (hd : decode M.2.1 pc = .ok (.aastore, 1)) (h : ax_aw σ t r i v = some σ1) (kk : AW M d bc bs (pc + 1) L st σ1 z) : AW M d bc bs pc L (av_r v :: av_i i :: av_r r :: st) σ z := by
  intro X p l e R s m args below meth c H locs cells slots Q ls C hcs hs hH hS hL hE
  obtain ⟨hx, hb, hml, hown, hts, hret, hlk, hin, hdf, hdl, hok, hK, hG⟩ := id C
  obtain ⟨⟨a, j⟩, h1, h2⟩ := Option.bind_eq_some_iff.mp h
  obtain ⟨n, rfl, hsh, hix, hj⟩ := ax_ix_of h1
  simp only at hsh hj h2
  subst hj
  split at h2
  · cases h2
  rename_i hn8
  have h8 : 9 ≤ a := by omega
  obtain ⟨⟨b, nb⟩, h3, h4⟩ := Option.bind_eq_some_iff.mp h2
  cases h4
  obtain ⟨rfl, hshb⟩ := ax_sh_of h3
  obtain ⟨cell, g1, g2, g3, g4, g5, g6⟩ := ax_at_arr hK (hH.2.2 a _ n hsh) (by omega) (by omega)
  have g6 := g6 h8
  subst g6
  have hlt : i.toNatClampNeg < n := Nat.not_le.mp fun q => hix (Or.inr q)
  have h0 : ¬ i < 0 := fun q => hix (Or.inl q)
  obtain ⟨hb8, q', hc', -, cellV, f1, f2, f3, -⟩ := ax_at_obj (hH.2.2 b _ nb hshb) (by omega)
  have hcls := (hK.1.1 _ _ hc').2
  have hRA := (hK.2.1 t (by omega) (by omega)).2
  rw [hc'] at hq
  have hq := Option.some.inj hq
  simp only at hq
  rw [← hq] at hRA
  obtain ⟨kA, comp, k1, k2, k3, -⟩ := hRA
  have hcomp : comp = X.1.1 (t - 10) := Option.some.inj (k3.symm.trans hcls.1)
  subst hcomp
  obtain ⟨kC, hkC, -⟩ := hcls.2
  refine W.aast hx hb g1 (fun q h => by cases h) (fun h => by cases h) k1 k2 rfl hkC ⟨h0, Nat.lt_of_lt_of_le hlt g4.1⟩ f1 (fun q h => by rw [f3] at h; cases h) (by rw [f2]; exact hkC) (by rw [f2]; exact va_assign hcls) rfl rfl hd fun H' e1 e2 e3 => ?_
  refine kk X p l e R s m args below meth c H' _ cells slots Q ls C hcs hs (hH.upd hok h8 rfl e2 e3 (fun b hb k' => rfl) (fun b hb k' => ax_u2_ne hb k') (fun t' n' hsh' => ?_)) (ax_S_put hok hS h8 e2 e3) hL hE
  cases hsh.symm.trans hsh'
  refine ax_at_ast (v := av_r (some b)) h8 (by omega) (by omega) e1 (fun j => ?_)
  have hI : ∀ k, ax_isI t k = false := by
    have : t = 11 ∨ t = 12 ∨ t = 13 := by omega
    rcases this with rfl | rfl | rfl <;> exact fun _ => rfl
  by_cases hjk : j = i.toNatClampNeg
  · subst hjk
    simp [ax_sv, hI, ax_u2_self]
  · rw [if_neg hjk]
    simp only [ax_sv, ax_u2_nk hjk]
theorem ax_alen {t : Nat} {r : Option Nat} {x : Int32} (ht : 8 ≤ t ∧ t < 14) (hd : decode M.2.1 pc = .ok (.arraylength, 1)) (h : ax_ln σ t r = some x) (kk : AW M d bc bs (pc + 1) L (av_i x :: st) σ z) : AW M d bc bs pc L (av_r r :: st) σ z := by
  intro X p l e R s m args below meth c H locs cells slots Q ls C hcs hs hH hS hL hE
  obtain ⟨hx, hb, hml, hown, hts, hret, hlk, hin, hdf, hdl, hok, hK, hG⟩ := id C
  obtain ⟨⟨a, n⟩, h1, h2⟩ := Option.map_eq_some_iff.mp h
  subst h2
  obtain ⟨rfl, hsh⟩ := ax_sh_of h1
  obtain ⟨cell, g1, g2, g3, g4, g5, -⟩ := ax_at_arr hK (hH.2.2 _ _ n hsh) ht.1 ht.2
  exact W.alen (n := Int32.ofNat n) hx hb g1 g2 g4.2 rfl rfl hd (kk X p l e R s m args below meth c H locs cells slots Q ls C hcs hs hH hS hL hE)
/-- a new cell: the others as they were -/
theorem ax_H.push {X : ax_X} {H H' : Heap} {t n : Nat} (hok : ax_ok X) (h : ax_H X σ H) (z1 : H'.size = H.size + 1) (o1 : ∀ q : Nat, q < H.size → H'[q]? = H[q]?) (hat : ax_at X (ax_nw σ t n) H' σ.1.length t n) : ax_H X (ax_nw σ t n) H' ∧ ax_ρ X σ.1.length = H.size := by
  have hr : ax_ρ X σ.1.length = H.size := by rw [hok.1 _ h.1, h.2.1]
  have hlen : (ax_nw σ t n).1.length = σ.1.length + 1 := by simp [ax_nw]
  have h1 := h.1
  have h2 := h.2.1
  refine ⟨⟨by omega, by rw [z1, hlen]; omega, fun a t' n' ha => ?_⟩, hr⟩
  by_cases hl : a < σ.1.length
  · have ha' : σ.1[a]? = some (t', n') := by
      have e : (ax_nw σ t n).1[a]? = σ.1[a]? := by
        show (σ.1 ++ [(t, n)])[a]? = _
        rw [List.getElem?_append_left hl]
      rw [← e]
      exact ha
    refine (h.2.2 a t' n' ha').kept (o1 _ ?_) (fun k => ?_) (fun k => ?_)
    · by_cases ha8 : 9 ≤ a
      · rw [hok.1 a ha8]; omega
      · have := hok.2 a (by omega); omega
    · show (if a = σ.1.length then (0 : Int32) else σ.2.1 a k) = _
      rw [if_neg (by omega)]
    · show (if a = σ.1.length then (none : Option Nat) else σ.2.2 a k) = _
      rw [if_neg (by omega)]
  · have hl2 : a < (ax_nw σ t n).1.length := (List.getElem?_eq_some_iff.mp ha).1
    have hae : a = σ.1.length := by omega
    subst hae
    have e : (ax_nw σ t n).1[σ.1.length]? = some (t, n) := by
      show (σ.1 ++ [(t, n)])[σ.1.length]? = _
      simp
    cases e.symm.trans ha
    exact hat
theorem ax_S_new {X : ax_X} {H0 H H' : Heap} {locs : List Loc} (h : va_S (ax_A X) H0 H locs) (z1 : H'.size = H.size + 1) (o1 : ∀ q : Nat, q < H.size → H'[q]? = H[q]?) : va_S (ax_A X) H0 H' locs := ⟨Nat.le_trans h.1 (by omega), fun x h1 h2 => (o1 x (Nat.lt_of_lt_of_le h1 h.1)).trans (h.2.1 x h1 h2), h.2.2⟩
theorem ax_newO {index t : Nat} {q : vw_C} (hd : decode M.2.1 pc = .ok (.new index, 3)) (hc : vwCl[t]? = some q) (hw1 : Cond.classLink M.1 index q.1 ∈ ax_WS) (hw2 : Cond.instantiable q.1 q.2.2 ∈ ax_WS) (hw3 : Cond.initialized q.1 ∈ ax_WS)
    (hdef : ∀ k, k < q.2.2 → defaultValue (ax_ty t k) = if ax_isI t k = true then .int 0 else .null)
    (kk : AW M d bc bs (pc + 3) L (av_r (some σ.1.length) :: st) (ax_nw σ t q.2.2) z) : AW M d (bc + 1) (bs + q.2.2) pc L st σ z := by
  intro X p l e R s m args below meth c H locs cells slots Q ls C hcs hs hH hS hL hE
  obtain ⟨hx, hb, hml, hown, hts, hret, hlk, hin, hdf, hdl, hok, hK, hG⟩ := id C
  have hKn := hK.1.1 t _ hc
  have ht : t < 8 := (List.getElem?_eq_some_iff.mp hc).1
  obtain ⟨hcl, hty, hnm⟩ := ax_cls hc
  have hts' : ∀ w ∈ u_ws q.1 q.2.1 q.2.2, w.before args s = true := fun w hw => hts w (hcl w hw)
  refine W.newcK hx hb hown (hts _ hw1) (hts _ hw2) (hts _ hw3) rfl hd (by omega) (by omega) hKn.2.1 rfl fun H1 kC hkC e1 z1 o1 => ?_
  have hr : ax_ρ X σ.1.length = H.size := by rw [hok.1 _ hH.1, hH.2.1]
  have hat : ax_at X (ax_nw σ t q.2.2) H1 σ.1.length t q.2.2 := by
    have := hH.1
    unfold ax_at
    rw [if_neg (by omega), if_neg (by omega), if_pos ht]
    refine ⟨q, hc, rfl, ?_⟩
    rw [hr]
    refine (u_born (ax_ty t) hts' (fun w h => h) hKn hkC e1 hty).to (fun k hk => ?_)
    rw [hdef k hk]
    have h1 : (ax_nw σ t q.2.2).2.1 σ.1.length k = 0 := if_pos rfl
    have h2 : (ax_nw σ t q.2.2).2.2 σ.1.length k = none := if_pos rfl
    simp only [ax_sv, h1, h2]
    split <;> rfl
  obtain ⟨hH1, hr⟩ := hH.push hok z1 o1 hat
  have k1 := kk X p l e R s m args below meth c H1 locs (cells + 1) (slots + q.2.2) Q ls C (by omega) (by omega) hH1 (ax_S_new hS z1 o1) hL hE
  have e2 : List.map (ax_cv (ax_ρ X)) (av_r (some σ.1.length) :: st) = Value.ref H.size :: List.map (ax_cv (ax_ρ X)) st := by
    show Value.ref (ax_ρ X σ.1.length) :: _ = _
    rw [hr]
  rw [e2] at k1
  exact k1
theorem ax_newA {t n : Nat} {x : Int32} {aty : ArrayType} (hd : decode M.2.1 pc = .ok (.newarray aty, 2)) (ht : 8 ≤ t ∧ t < 11) (hty : newarray.typeOf aty = ax_ty t 0) (hw : Cond.arrayClass (ax_ty t 0) ∈ ax_WS) (hx0 : ¬ x < 0) (hn : x.toNatClampNeg = n) (hn2 : n ≤ 100000)
    (kk : AW M d bc bs (pc + 2) L (av_r (some σ.1.length) :: st) (ax_nw σ t n) z) : AW M d (bc + 1) (bs + n) pc L (av_i x :: st) σ z := by
  intro X p l e R s m args below meth c H locs cells slots Q ls C hcs hs hH hS hL hE
  obtain ⟨hx, hb, hml, hown, hts, hret, hlk, hin, hdf, hdl, hok, hK, hG⟩ := id C
  have htc : t = 8 ∨ t = 9 ∨ t = 10 := by omega
  have hcb : componentBytes (newarray.typeOf aty) ≤ 8 := by
    cases aty <;> decide
  refine va_newaK hx hb (by rw [hty]; exact hts _ hw) rfl hd rfl hx0 hn (by have := Nat.mul_le_mul hn2 hcb; omega) (by omega) (by omega) rfl fun H1 cA e1 z1 o1 hAr hNm => ?_
  have hr : ax_ρ X σ.1.length = H.size := by rw [hok.1 _ hH.1, hH.2.1]
  rw [hty] at hNm e1
  have hRA := (hK.2.1 t (by omega) (by omega)).2
  have hcA : cA = X.2.1 t := by
    rcases htc with rfl | rfl | rfl <;> exact Option.some.inj (hNm.symm.trans hRA)
  subst hcA
  have hat : ax_at X (ax_nw σ t n) H1 σ.1.length t n := by
    have := hH.1
    unfold ax_at
    rw [if_neg (by omega), if_neg (by omega), if_neg (by omega), hr]
    refine ⟨by omega, e1.trans ?_⟩
    congr 2
    funext k
    have h1 : (ax_nw σ t n).2.1 σ.1.length k = 0 := if_pos rfl
    simp only [ax_sv, h1]
    rcases htc with rfl | rfl | rfl <;> rfl
  obtain ⟨hH1, hr⟩ := hH.push hok z1 o1 hat
  have k1 := kk X p l e R s m args below meth c H1 locs (cells + 1) (slots + n) Q ls C (by omega) (by omega) hH1 (ax_S_new hS z1 o1) hL hE
  have e2 : List.map (ax_cv (ax_ρ X)) (av_r (some σ.1.length) :: st) = Value.ref H.size :: List.map (ax_cv (ax_ρ X)) st := by
    show Value.ref (ax_ρ X σ.1.length) :: _ = _
    rw [hr]
  rw [e2] at k1
  exact k1
theorem ax_newR {index t n : Nat} {x : Int32} {Cn : String} (hd : decode M.2.1 pc = .ok (.anewarray index, 3)) (ht : 11 ≤ t ∧ t < 14) (hty : ax_ty t 0 = .object Cn) (hw1 : Cond.classLink M.1 index Cn ∈ ax_WS) (hCn : Cn = RX1 ∨ Cn = RX3 ∨ Cn = RX5) (hx0 : ¬ x < 0) (hn : x.toNatClampNeg = n) (hn2 : n ≤ 100000)
    (kk : AW M d bc bs (pc + 3) L (av_r (some σ.1.length) :: st) (ax_nw σ t n) z) : AW M d (bc + 1) (bs + n) pc L (av_i x :: st) σ z := by
  intro X p l e R s m args below meth c H locs cells slots Q ls C hcs hs hH hS hL hE
  obtain ⟨hx, hb, hml, hown, hts, hret, hlk, hin, hdf, hdl, hok, hK, hG⟩ := id C
  subst hn
  have hao : va_AO Cn s := by
    rcases hCn with rfl | rfl | rfl
    · exact hK.2.2.2.2.2.1
    · exact hK.2.2.2.2.2.2.1
    · exact hK.2.2.2.2.2.2.2
  refine W.anew hx hb hown (hts _ hw1) (va_AO.use hao) rfl hd rfl hx0 (by omega) (by omega) (by omega) fun cA kA comp f1 f2 f3 f4 => ?_
  generalize hH1 : H.push ({ cls := cA, slots := Array.replicate x.toNatClampNeg .null, vm := .none } : Cell) = H1
  have z1 : H1.size = H.size + 1 := by rw [← hH1, Array.size_push]
  have e1 : H1[H.size]? = some (arrV cA x.toNatClampNeg (fun _ => .null)) := by rw [← hH1, Array.getElem?_push_size, ← arrV_new]
  have o1 : ∀ q : Nat, q < H.size → H1[q]? = H[q]? := fun q hq => by rw [← hH1, Array.getElem?_push, if_neg (Nat.ne_of_lt hq)]
  have hr : ax_ρ X σ.1.length = H.size := by rw [hok.1 _ hH.1, hH.2.1]
  have hRA := (hK.2.1 t (by omega) (by omega)).2
  rw [hty] at hRA
  obtain ⟨kA', comp', k1, k2, k3, k4⟩ := hRA
  have hcA : cA = X.2.1 t := Option.some.inj (f1.symm.trans k4)
  subst hcA
  have hat : ax_at X (ax_nw σ t x.toNatClampNeg) H1 σ.1.length t x.toNatClampNeg := by
    have := hH.1
    unfold ax_at
    rw [if_neg (by omega), if_neg (by omega), if_neg (by omega), hr]
    refine ⟨by omega, e1.trans ?_⟩
    congr 2
    funext k
    have h1 : (ax_nw σ t x.toNatClampNeg).2.2 σ.1.length k = none := if_pos rfl
    have hI : ax_isI t k = false := by
      have : t = 11 ∨ t = 12 ∨ t = 13 := by omega
      rcases this with rfl | rfl | rfl <;> rfl
    simp only [ax_sv, h1, hI]
    rfl
  obtain ⟨hH1', hr⟩ := hH.push hok z1 o1 hat
  have k1 := kk X p l e R s m args below meth c H1 locs (cells + 1) (slots + x.toNatClampNeg) Q ls C (by omega) (by omega) hH1' (ax_S_new hS z1 o1) hL hE
  have e2 : List.map (ax_cv (ax_ρ X)) (av_r (some σ.1.length) :: st) = Value.ref H.size :: List.map (ax_cv (ax_ρ X)) st := by
    show Value.ref (ax_ρ X σ.1.length) :: _ = _
    rw [hr]
  rw [e2] at k1
  exact k1
end AXA
end
section
/-! ===== contracts and calls ===== -/
def ax_okr : Option FieldType → Option ax_V → Prop
  | none, none => True
  | some .int, some (.inl _) => True
  | some .boolean, some (.inl x) => narrow .boolean (.int x) = .int x
  | some .byte, some (.inl x) => narrow .byte (.int x) = .int x
  | some .long, some (.inr (.inl _)) => True
  | some (.object _), some (.inr (.inr _)) => True
  | some (.array _), some (.inr (.inr _)) => True
  | _, _ => False
def ax_args : List ax_V → List (Option ax_V)
  | [] => []
  | .inr (.inl x) :: t => some (av_l x) :: none :: ax_args t
  | v :: t => some v :: ax_args t
theorem ax_args_lv (ρ : Nat → Nat) : ∀ (as : List ax_V) (k i : Nat) (v : ax_V), (ax_args as)[i]? = some (some v) → (k + i, ax_cv ρ v) ∈ lv_args k (as.map (ax_cv ρ))
  | [], k, i, v, h => by simp [ax_args] at h
  | .inl x :: t, k, i, v, h => by
    cases i with
    | zero =>
      cases h
      exact List.mem_cons_self
    | succ j =>
      refine List.mem_cons_of_mem _ ?_
      have h1 := ax_args_lv ρ t (k + 1) j v h
      rw [show k + (j + 1) = k + 1 + j by omega]
      exact h1
  | .inr (.inl x) :: t, k, i, v, h => by
    match i, h with
    | 0, h =>
      cases h
      exact List.mem_cons_self
    | 1, h => cases h
    | j + 2, h =>
      refine List.mem_cons_of_mem _ ?_
      have h1 := ax_args_lv ρ t (k + 2) j v h
      rw [show k + (j + 2) = k + 2 + j by omega]
      exact h1
  | .inr (.inr r) :: t, k, i, v, h => by
    cases i with
    | zero =>
      cases h
      exact List.mem_cons_self
    | succ j =>
      refine List.mem_cons_of_mem _ ?_
      have h1 := ax_args_lv ρ t (k + 1) j v h
      rw [show k + (j + 1) = k + 1 + j by omega]
      have e : (ax_cv ρ (.inr (.inr r))).category = 1 := ax_cat ρ _
      show _ ∈ lv_args (if (ax_cv ρ (.inr (.inr r))).category = 2 then k + 2 else k + 1) _
      rw [e]
      exact h1
/-- a method's contract: from the arguments and the store as it comes to what it answers and the store as it is then -/
def AC (M : ax_M) (y : MethodName) (d kc ks : Nat) (as : List ax_V) (σ : ax_S) (z : Option ax_V × ax_S) : Prop :=
  ∀ (X : ax_X) (l : Launch), ax_ok X → Met l y (Cond.code y M.2.1 M.2.2.2.1 M.2.2.1 :: ax_WS) { frames := d, cells := kc, slots := ks, locals := 64 * d }
    (va_Pc (as.map (ax_cv (ax_ρ X))) (fun U => ax_H X σ U.heap ∧ ax_K X U ∧ ax_G X U U.heap))
    (fun _ st oc t => oc = .returned (z.1.map (ax_cv (ax_ρ X))) ∧ ax_H X z.2 t.heap ∧ va_F (ax_A X) st t) kc ks (ax_A X)
theorem ax_met {M : ax_M} {y : MethodName} {d kc ks : Nat} {as : List ax_V} {σ : ax_S} {z : Option ax_V × ax_S} {L0 : List (Option ax_V)} (hy : plainName y.cls = true) (hcls : y.cls = M.1) (hini : M.2.2.2.2 = true → y.name = "<init>")
    (hL0 : ax_sub L0 (ax_args as)) (hlen : (ax_args as).length ≤ M.2.2.2.1) (hret : ax_okr M.2.2.1 z.1) (h : AW M d kc ks 0 L0 [] σ z) : AC M y d kc ks as σ z := by
  intro X l hok
  refine Met.ofW (cc := M.2.1) (maxL := M.2.2.2.1) (ret := M.2.2.1) hy rfl ?_
  intro p e s m args below meth c s₁ B hml hv
  obtain ⟨rfl, hH, hK, hG⟩ := hv
  have hts := atoms_spec (ws := Cond.code y M.2.1 M.2.2.2.1 M.2.2.1 :: ax_WS) B.pre
  have hown : s.vm.findClass M.1 = some m.cls := by rw [← hcls]; exact findClass_of_methodNamed B.named
  have hin : M.2.2.2.2 = true → meth.name = "<init>" := fun q => ((name_of_methodNamed B.named B.method).1).trans (hini q)
  have hS : va_S (ax_A X) s.heap s.heap [] := va_S.rf
  have hsl : ∀ vs : List ax_V, (lg_sl (vs.map (ax_cv (ax_ρ X)))).length = (ax_args vs).length := by
    intro vs
    induction vs with
    | nil => rfl
    | cons v t ih =>
      have hcat := ax_cat (ax_ρ X) v
      unfold lg_sl at ih ⊢
      simp only [List.map_cons, List.flatMap_cons, List.length_append, ih]
      rcases v with x | x | r
      · rw [hcat]
        simp [ax_args]
        omega
      · rw [hcat]
        simp [ax_args]
        omega
      · rw [hcat]
        simp [ax_args]
        omega
  have hl := lv_entry (as.map (ax_cv (ax_ρ X))) (n := M.2.2.2.1) (by rw [hsl]; exact hlen)
  rw [lg_entry_eq]
  generalize (lg_sl (as.map (ax_cv (ax_ρ X))) ++ List.replicate (M.2.2.2.1 - (lg_sl (as.map (ax_cv (ax_ρ X)))).length) Slot.unset).toArray = ls at hl ⊢
  have hL : ax_L X M.2.2.2.1 ls L0 := ⟨hl.1, hl.2.1, fun i v hv => by
    have h1 := ax_args_lv (ax_ρ X) as 0 i v (ax_sub_at hL0 i v hv)
    rw [Nat.zero_add] at h1
    exact hl.2.2 _ h1⟩
  refine h X p l e _ s m _ below meth c s.heap [] 0 0 _ ls ⟨B.exec, B.bytes, hml, hown, fun w hw => hts w (List.mem_cons_of_mem _ hw), B.returns, B.notSynchronized, hin, Nat.le_refl _, Nat.le_refl _, hok, hK, hG⟩ (by show 0 + kc ≤ kc; omega) (by show 0 + ks ≤ ks; omega) hH hS hL ?_
  intro pc' ls' H' locs' hH' hS' hd
  have hq : ∀ v : Option Value, v = z.1.map (ax_cv (ax_ρ X)) → ∀ t : State, t.heap = H' → s.WarmedH t.vm → Outcome.returned v = .returned (z.1.map (ax_cv (ax_ρ X))) ∧ ax_H X z.2 t.heap ∧ va_F (ax_A X) s t := fun v hv t ht hW => ⟨by rw [hv], by rw [ht]; exact hH', hS'.F ht⟩
  have hr := B.returns
  have hlocks := B.notSynchronized
  obtain ⟨z1, z2⟩ := z
  obtain ⟨M1, M2, M3, M4, M5⟩ := M
  simp only at hret hd hr hq ⊢
  match M3, z1, hret, hd, hr, hq with
  | none, none, _, hd, hr, hq => exact W.vret B.exec B.bytes hr (fun t ht hW => hq _ rfl t ht hW) hS'.2.2 hd
  | some .int, some (.inl x), _, hd, hr, hq => exact W.iret B.exec B.bytes hr (fun t ht hW => hq _ rfl t ht hW) hS'.2.2 hd
  | some .boolean, some (.inl x), hn, hd, hr, hq => exact W.zret B.exec B.bytes hr hn (fun t ht hW => hq _ rfl t ht hW) hS'.2.2 hd
  | some .byte, some (.inl x), hn, hd, hr, hq => exact W.zret B.exec B.bytes hr hn (fun t ht hW => hq _ rfl t ht hW) hS'.2.2 hd
  | some .long, some (.inr (.inl x)), _, hd, hr, hq => exact W.lret B.exec B.bytes hr (fun t ht hW => hq _ rfl t ht hW) hS'.2.2 hd
  | some (.object n), some (.inr (.inr r)), _, hd, hr, hq =>
    refine W.aret B.exec B.bytes hr (Or.inl ⟨n, rfl⟩) ?_ (fun t ht hW => hq _ rfl t ht hW) hS'.2.2 hd
    cases r with
    | none => exact Or.inl rfl
    | some a => exact Or.inr ⟨_, rfl⟩
  | some (.array n), some (.inr (.inr r)), _, hd, hr, hq =>
    refine W.aret B.exec B.bytes hr (Or.inr ⟨n, rfl⟩) ?_ (fun t ht hW => hq _ rfl t ht hW) hS'.2.2 hd
    cases r with
    | none => exact Or.inl rfl
    | some a => exact Or.inr ⟨_, rfl⟩
theorem ax_good : ∀ w ∈ ax_WS, w ∈ ax_WS ∧ ((w.onTables && w.keeps) = true ∨ ∃ ty, w = .arrayClass ty) := fun w hw => ⟨hw, good_of_word (List.mem_filter.mp hw).2⟩
theorem ax_goodIn {c0 : Cond} (h : c0 ∈ ax_WS) : GoodIn ax_WS (c0 :: ax_WS) := fun w hw => (List.mem_cons.mp hw).elim (fun e => e ▸ ax_good _ h) (ax_good w)
/-- the words of a call of a method -/
def ax_cw (M2 : ax_M) (y : MethodName) : Prop := Cond.code y M2.2.1 M2.2.2.2.1 M2.2.2.1 ∈ ax_WS ∧ Cond.initialized y.cls ∈ ax_WS
def ax_cy0 (y : MethodName) (n : Nat) : Prop := y.cls ≠ "java/lang/invoke/MethodHandle" ∧ y.cls ≠ "java/lang/invoke/VarHandle" ∧ (parseMethodDescriptor y.desc).map (fun d => d.parameters.length) = some n
theorem ax_blind {X : ax_X} {as : List Value} {σ : ax_S} : FrameBlind (va_Pc as (fun U => ax_H X σ U.heap ∧ ax_K X U ∧ ax_G X U U.heap)) := by
  intro a U g mk q
  obtain ⟨e, hH, hK, hG⟩ := q
  exact ⟨e, hH, ax_K.moved (s := U) (U := U.calling g mk a) (State.WarmedH.refl U) hK, ax_G.moved (u := U) (U := U.calling g mk a) (Vm.Alike.refl U.vm) hG⟩
theorem ax_pcU {X : ax_X} {M : ax_M} {d : Nat} {p : Program} {R : Room} {s : State} {m : MethodId} {args : Array Value} {meth : Method} {c : Code} {σ : ax_S} {H : Heap} {locs : List Loc} (C : ax_C X M d p R s m args meth c) (hH : ax_H X σ H) (hS : va_S (ax_A X) s.heap H locs) (as : List Value) :
    ∀ U : State, U.heap = H → s.WarmedH U.vm → va_Pc as (fun U => ax_H X σ U.heap ∧ ax_K X U ∧ ax_G X U U.heap) as.toArray U := by
  intro U hU hW
  obtain ⟨hx, hb, hml, hown, hts, hret, hlk, hin, hdf, hdl, hok, hK, hG⟩ := id C
  refine ⟨rfl, by rw [hU]; exact hH, hK.moved hW, ?_⟩
  rw [hU]
  exact (hG.moved hW.alike).kept (fun a h1 h2 => hS.2.1 a h1 h2)
theorem ax_S_call {X : ax_X} {H0 H : Heap} {locs L : List Loc} {st t : State} (hS : va_S (ax_A X) H0 H locs) (h0 : st.heap = H) (hF : va_F (ax_A X) st t) (hL : ∀ q ∈ L, ax_A X q.base) : va_S (ax_A X) H0 t.heap (locs ++ L) := by
  obtain ⟨hz, hk⟩ := hF
  rw [h0] at hz hk
  refine ⟨Nat.le_trans hS.1 hz, fun q h1 h2 => by rw [hk q (Nat.lt_of_lt_of_le h1 hS.1) h2]; exact hS.2.1 q h1 h2, fun q hq => ?_⟩
  rcases List.mem_append.mp hq with h | h
  · exact hS.2.2 q h
  · exact hL q h
def ax_c1 : ax_V → Nat
  | .inr (.inl _) => 2
  | _ => 1
def ax_wd (st : List ax_V) : Nat := (st.map ax_c1).sum
theorem ax_wd_eq (ρ : Nat → Nat) (st : List ax_V) : ((st.map (ax_cv ρ)).map (fun v => v.category)).sum = ax_wd st := by
  unfold ax_wd
  rw [List.map_map]
  congr 2
  funext v
  show (ax_cv ρ v).category = _
  rw [ax_cat]
  rcases v with x | x | r <;> rfl
section AXC
variable {M M2 : ax_M} {y : MethodName} {d d2 bc bs kc ks pc index : Nat} {L : List (Option ax_V)} {st S As : List ax_V} {σ σ1 : ax_S} {z : Option ax_V × ax_S} {r : Option ax_V}
/-- behind a call -/
theorem ax_after (hg : ∀ (X : ax_X) (p : Program) (l : Launch) (e : Env) (R : Room) (s : State) (m : MethodId) (args : Array Value) (below : List Frame) (meth : Method) (c : Code) (H : Heap) (locs : List Loc) (cells slots : Nat) (ls : Array Slot),
      ax_C X M d p R s m args meth c → cells + (bc + kc) ≤ R.cells → slots + (bs + ks) ≤ R.slots → ax_H X σ H → va_S (ax_A X) s.heap H locs → ax_L X M.2.2.2.1 ls L → ∃ as : Array Value,
      va_Run p l e R s m args below meth c H locs cells slots kc ks (F0 m pc ls (S.map (ax_cv (ax_ρ X)))) (st.map (ax_cv (ax_ρ X))) ((fun _ st oc t => oc = .returned (r.map (ax_cv (ax_ρ X))) ∧ ax_H X σ1 t.heap ∧ va_F (ax_A X) st t : Array Value → State → Outcome → State → Prop) as) (ax_A X))
    (kk : AW M d bc bs (pc + 3) L (r.toList ++ st) σ1 z) : AW M d (bc + kc) (bs + ks) pc L S σ z := by
  intro X p l e R s m args below meth c H locs cells slots Q ls C hcs hs hH hS hL hE
  obtain ⟨as, hr⟩ := hg X p l e R s m args below meth c H locs cells slots ls C hcs hs hH hS hL
  intro T hT X0
  obtain ⟨v, st₀, t, T', L2, h0, X', hL2, e1, e2, ⟨hv, hH1, hF⟩, stp⟩ := hr T hT X0
  have hv := Outcome.returned.inj hv
  subst hv
  obtain ⟨t2, a1, b1⟩ := kk X p l e R s m args below meth c t.heap (locs ++ L2) (cells + kc) (slots + ks) Q ls C (by omega) (by omega) hH1 (ax_S_call hS h0 hF hL2) hL hE T' e1 X'
  refine ⟨t2, stp t2 ?_, b1⟩
  have e3 : List.map (ax_cv (ax_ρ X)) (r.toList ++ st) = (r.map (ax_cv (ax_ρ X))).toList ++ List.map (ax_cv (ax_ρ X)) st := by
    cases r <;> simp
  rw [e3] at a1
  exact a1
theorem ax_invV {t b n : Nat} (hd : decode M.2.1 pc = .ok (.invokevirtual index, 3)) (hC : AC M2 y d2 kc ks (av_r (some b) :: As) σ (r, σ1)) (hsh : ax_sh σ t (some b) = some (b, n)) (hcl : (vwCl[t]?).map (fun q => q.1) = some y.cls)
    (hw1 : ax_cw M2 y) (hw2 : Cond.methodLink M.1 index y ∈ ax_WS) (hw3 : Cond.instanceMethod y ∈ ax_WS) (hw4 : Cond.selects y.cls y y ∈ ax_WS) (hy : ax_cy0 y As.length) (hdd : d2 + 1 ≤ d) (hml2 : M2.2.2.2.1 ≤ 40) (hst : ax_wd st ≤ 8) (hS0 : S = As.reverse ++ av_r (some b) :: st)
    (kk : AW M d bc bs (pc + 3) L (r.toList ++ st) σ1 z) : AW M d (bc + kc) (bs + ks) pc L S σ z := by
  refine ax_after ?_ kk
  intro X p l e R s m args below meth c H locs cells slots ls C hcs hs hH hS hL
  obtain ⟨hx, hb, hml, hown, hts, hret, hlk, hin, hdf, hdl, hok, hK, hG⟩ := id C
  obtain ⟨-, hsh⟩ := ax_sh_of hsh
  have ht : t < 8 := by
    cases hq : vwCl[t]? with
    | none => rw [hq] at hcl; cases hcl
    | some q => exact (List.getElem?_eq_some_iff.mp hq).1
  obtain ⟨h8, q', hc', -, cell, q1, q2, q3, q4⟩ := ax_at_obj (hH.2.2 b t n hsh) ht
  rw [hc'] at hcl
  have hcl := Option.some.inj hcl
  simp only at hcl
  have hfc := (hK.1.1 t _ hc').2.1
  rw [hcl, ← q2] at hfc
  have hGI := ax_goodIn hw1.1
  have hB : CallB R s args M.1 index y M2.2.1 M2.2.2.2.1 M2.2.2.1 (Cond.code y M2.2.1 M2.2.2.2.1 M2.2.2.1 :: ax_WS) { frames := d2, cells := kc, slots := ks, locals := 64 * d2 } kc ks As.length := callB_of As.length hts hGI rfl rfl rfl (hts _ hw1.2) (hts _ hw2) hy ⟨by show d2 + 1 ≤ _; omega, by show 8 + (_ + 11) + 64 * d2 ≤ _; omega⟩
  refine ⟨(Value.ref (ax_ρ X b) :: As.map (ax_cv (ax_ρ X))).toArray, va_runV (C := y.cls) (b := ax_ρ X b) (As := As.map (ax_cv (ax_ρ X))) ⟨hx, hb, hml, hown, hts⟩ (hC X l hok) ⟨hB, hts _ hw3, hts _ hw4⟩ ⟨ax_blind, ⟨cell, q1, by rw [q3]; rfl, hfc⟩, ax_pcU C hH hS _⟩ rfl (by simp) hL.1 ?_ ?_ hd ⟨by omega, by omega⟩⟩
  · rw [hS0]
    simp [ax_cv, va_rf]
  · rw [ax_wd_eq]
    show 2 * 0 + _ ≤ 8
    omega
theorem ax_invS (hd : decode M.2.1 pc = .ok (.invokestatic index, 3)) (hC : AC M2 y d2 kc ks As σ (r, σ1)) (hw1 : ax_cw M2 y) (hw2 : Cond.methodLink M.1 index y ∈ ax_WS) (hw3 : Cond.static y ∈ ax_WS) (hy : ax_cy0 y As.length) (hdd : d2 + 1 ≤ d) (hml2 : M2.2.2.2.1 ≤ 40) (hst : ax_wd st ≤ 8) (hS0 : S = As.reverse ++ st)
    (kk : AW M d bc bs (pc + 3) L (r.toList ++ st) σ1 z) : AW M d (bc + kc) (bs + ks) pc L S σ z := by
  refine ax_after ?_ kk
  intro X p l e R s m args below meth c H locs cells slots ls C hcs hs hH hS hL
  obtain ⟨hx, hb, hml, hown, hts, hret, hlk, hin, hdf, hdl, hok, hK, hG⟩ := id C
  have hB : CallB R s args M.1 index y M2.2.1 M2.2.2.2.1 M2.2.2.1 (Cond.code y M2.2.1 M2.2.2.2.1 M2.2.2.1 :: ax_WS) { frames := d2, cells := kc, slots := ks, locals := 64 * d2 } kc ks As.length := callB_of As.length hts (ax_goodIn hw1.1) rfl rfl rfl (hts _ hw1.2) (hts _ hw2) hy ⟨by show d2 + 1 ≤ _; omega, by show 8 + (_ + 11) + 64 * d2 ≤ _; omega⟩
  refine ⟨(As.map (ax_cv (ax_ρ X))).toArray, va_runS (As := As.map (ax_cv (ax_ρ X))) ⟨hx, hb, hml, hown, hts⟩ (hC X l hok) ⟨hB, hts _ hw3⟩ ⟨ax_blind, ax_pcU C hH hS _⟩ rfl (by simp) hL.1 ?_ ?_ hd ⟨by omega, by omega⟩⟩
  · rw [hS0]
    simp
  · rw [ax_wd_eq]
    show 2 * 0 + _ ≤ 8
    omega
theorem ax_invSN {host : String} (hd : decode M.2.1 pc = .ok (.invokestatic index, 3)) (hC : AC M2 y d2 kc ks As σ (r, σ1)) (hw1 : ax_cw M2 y) (hw2 : Cond.methodLinkNest M.1 index y host ∈ ax_NW) (hw3 : Cond.static y ∈ ax_WS) (hy : ax_cy0 y As.length) (hdd : d2 + 1 ≤ d) (hml2 : M2.2.2.2.1 ≤ 40) (hst : ax_wd st ≤ 8) (hS0 : S = As.reverse ++ st)
    (kk : AW M d bc bs (pc + 3) L (r.toList ++ st) σ1 z) : AW M d (bc + kc) (bs + ks) pc L S σ z := by
  refine ax_after ?_ kk
  intro X p l e R s m args below meth c H locs cells slots ls C hcs hs hH hS hL
  obtain ⟨hx, hb, hml, hown, hts, hret, hlk, hin, hdf, hdl, hok, hK, hG⟩ := id C
  have hB : va_CN R s args M.1 index y host M2.2.1 M2.2.2.2.1 M2.2.2.1 (Cond.code y M2.2.1 M2.2.2.2.1 M2.2.2.1 :: ax_WS) { frames := d2, cells := kc, slots := ks, locals := 64 * d2 } kc ks As.length := va_cnB As.length hts (ax_goodIn hw1.1) rfl rfl rfl (hK.2.2.2.1 _ hw2) (hts _ hw1.2) hy ⟨by show d2 + 1 ≤ _; omega, by show 8 + (_ + 11) + 64 * d2 ≤ _; omega⟩
  refine ⟨(As.map (ax_cv (ax_ρ X))).toArray, va_runSN (As := As.map (ax_cv (ax_ρ X))) ⟨hx, hb, hml, hown, hts⟩ (hC X l hok) ⟨hB, hts _ hw3, trivial⟩ ⟨ax_blind, ax_pcU C hH hS _⟩ rfl (by simp) hL.1 ?_ ?_ hd ⟨by omega, by omega⟩⟩
  · rw [hS0]
    simp
  · rw [ax_wd_eq]
    show 2 * 0 + _ ≤ 8
    omega
theorem ax_invI {b : Nat} (hd : decode M.2.1 pc = .ok (.invokespecial index, 3)) (hC : AC M2 y d2 kc ks (av_r (some b) :: As) σ (none, σ1)) (hn : y.name = "<init>") (hr2 : M2.2.2.1 = none)
    (hw1 : ax_cw M2 y) (hw2 : Cond.methodLink M.1 index y ∈ ax_WS) (hw3 : Cond.instanceMethod y ∈ ax_WS) (hy : ax_cy0 y As.length) (hdd : d2 + 1 ≤ d) (hml2 : M2.2.2.2.1 ≤ 40) (hst : ax_wd st ≤ 8) (hS0 : S = As.reverse ++ av_r (some b) :: st)
    (kk : AW M d bc bs (pc + 3) L st σ1 z) : AW M d (bc + kc) (bs + ks) pc L S σ z := by
  refine ax_after (r := none) ?_ kk
  intro X p l e R s m args below meth c H locs cells slots ls C hcs hs hH hS hL
  obtain ⟨hx, hb, hml, hown, hts, hret, hlk, hin, hdf, hdl, hok, hK, hG⟩ := id C
  have hB : CallB R s args M.1 index y M2.2.1 M2.2.2.2.1 M2.2.2.1 (Cond.code y M2.2.1 M2.2.2.2.1 M2.2.2.1 :: ax_WS) { frames := d2, cells := kc, slots := ks, locals := 64 * d2 } kc ks As.length := callB_of As.length hts (ax_goodIn hw1.1) rfl rfl rfl (hts _ hw1.2) (hts _ hw2) hy ⟨by show d2 + 1 ≤ _; omega, by show 8 + (_ + 11) + 64 * d2 ≤ _; omega⟩
  have hM := hC X l hok
  rw [hr2] at hB hM
  refine ⟨(Value.ref (ax_ρ X b) :: As.map (ax_cv (ax_ρ X))).toArray, va_runI (b := ax_ρ X b) (As := As.map (ax_cv (ax_ρ X))) ⟨hx, hb, hml, hown, hts⟩ hM ⟨hB, hn, hts _ hw3⟩ ⟨ax_blind, ax_pcU C hH hS _⟩ rfl (by simp) hL.1 ?_ ?_ hd ⟨by omega, by omega⟩⟩
  · rw [hS0]
    simp [ax_cv, va_rf]
  · rw [ax_wd_eq]
    show 2 * 0 + _ ≤ 8
    omega
theorem ax_invIN {b : Nat} {host : String} (hd : decode M.2.1 pc = .ok (.invokespecial index, 3)) (hC : AC M2 y d2 kc ks (av_r (some b) :: As) σ (none, σ1)) (hn : y.name = "<init>") (hr2 : M2.2.2.1 = none)
    (hw1 : ax_cw M2 y) (hw2 : Cond.methodLinkNest M.1 index y host ∈ ax_NW) (hw3 : Cond.instanceMethod y ∈ ax_WS) (hy : ax_cy0 y As.length) (hdd : d2 + 1 ≤ d) (hml2 : M2.2.2.2.1 ≤ 40) (hst : ax_wd st ≤ 8) (hS0 : S = As.reverse ++ av_r (some b) :: st)
    (kk : AW M d bc bs (pc + 3) L st σ1 z) : AW M d (bc + kc) (bs + ks) pc L S σ z := by
  refine ax_after (r := none) ?_ kk
  intro X p l e R s m args below meth c H locs cells slots ls C hcs hs hH hS hL
  obtain ⟨hx, hb, hml, hown, hts, hret, hlk, hin, hdf, hdl, hok, hK, hG⟩ := id C
  have hB : va_CN R s args M.1 index y host M2.2.1 M2.2.2.2.1 M2.2.2.1 (Cond.code y M2.2.1 M2.2.2.2.1 M2.2.2.1 :: ax_WS) { frames := d2, cells := kc, slots := ks, locals := 64 * d2 } kc ks As.length := va_cnB As.length hts (ax_goodIn hw1.1) rfl rfl rfl (hK.2.2.2.1 _ hw2) (hts _ hw1.2) hy ⟨by show d2 + 1 ≤ _; omega, by show 8 + (_ + 11) + 64 * d2 ≤ _; omega⟩
  have hM := hC X l hok
  rw [hr2] at hB hM
  refine ⟨(Value.ref (ax_ρ X b) :: As.map (ax_cv (ax_ρ X))).toArray, va_runIN (b := ax_ρ X b) (As := As.map (ax_cv (ax_ρ X))) ⟨hx, hb, hml, hown, hts⟩ hM ⟨hB, hn, hts _ hw3⟩ ⟨ax_blind, ax_pcU C hH hS _⟩ rfl (by simp) hL.1 ?_ ?_ hd ⟨by omega, by omega⟩⟩
  · rw [hS0]
    simp [ax_cv, va_rf]
  · rw [ax_wd_eq]
    show 2 * 0 + _ ≤ 8
    omega
/-- Object() -/
theorem ax_obj {b : Nat} (hd : decode M.2.1 pc = .ok (.invokespecial index, 3)) (hw1 : Cond.methodLink M.1 index Lib.objectInit ∈ ax_WS) (hw2 : Cond.instanceMethod Lib.objectInit ∈ ax_WS) (hw3 : Cond.code Lib.objectInit ⟨#[0xb1]⟩ 1 none ∈ ax_WS) (hdd : 1 ≤ d) (hst : ax_wd st ≤ 8)
    (kk : AW M d bc bs (pc + 3) L st σ z) : AW M d bc bs pc L (av_r (some b) :: st) σ z := by
  intro X p l e R s m args below meth c H locs cells slots Q ls C hcs hs hH hS hL hE
  obtain ⟨hx, hb, hml, hown, hts, hret, hlk, hin, hdf, hdl, hok, hK, hG⟩ := id C
  refine W.objInit hx hb hown (hts _ hw1) (hts _ hw2) (hts _ hw3) rfl (hL.1.trans hml.symm) rfl hd (by omega) ?_ (kk X p l e R s m args below meth c H locs cells slots Q ls C hcs hs hH hS hL hE)
  rw [ax_wd_eq]
  show 2 * 0 + _ + 12 ≤ _
  omega
theorem ax_max {x v : Int32} (hd : decode M.2.1 pc = .ok (.invokestatic index, 3)) (hw1 : Cond.methodLink M.1 index Lib.Math.max.name ∈ ax_WS) (hw2 : Cond.static Lib.Math.max.name ∈ ax_WS) (hw3 : Cond.initialized "java/lang/Math" ∈ ax_WS) (hw4 : Cond.code Lib.Math.max.name Lib.Math.max.code 2 (some .int) ∈ ax_WS) (hdd : 1 ≤ d) (hst : ax_wd st ≤ 8)
    (kk : AW M d bc bs (pc + 3) L (av_i (if x < v then v else x) :: st) σ z) : AW M d bc bs pc L (av_i v :: av_i x :: st) σ z := by
  intro X p l e R s m args below meth c H locs cells slots Q ls C hcs hs hH hS hL hE
  obtain ⟨hx, hb, hml, hown, hts, hret, hlk, hin, hdf, hdl, hok, hK, hG⟩ := id C
  exact va_mmax hx hb (hml.trans hL.1.symm) hown (hts _ hw1) (hts _ hw2) (hts _ hw3) (hts _ hw4) (by omega) (by rw [ax_wd_eq]; omega) (by omega) (by omega) hd (kk X p l e R s m args below meth c H locs cells slots Q ls C hcs hs hH hS hL hE)
theorem ax_min {x v : Int32} (hd : decode M.2.1 pc = .ok (.invokestatic index, 3)) (hw1 : Cond.methodLink M.1 index Lib.Math.min.name ∈ ax_WS) (hw2 : Cond.static Lib.Math.min.name ∈ ax_WS) (hw3 : Cond.initialized "java/lang/Math" ∈ ax_WS) (hw4 : Cond.code Lib.Math.min.name Lib.Math.min.code 2 (some .int) ∈ ax_WS) (hdd : 1 ≤ d) (hst : ax_wd st ≤ 8)
    (kk : AW M d bc bs (pc + 3) L (av_i (if v < x then v else x) :: st) σ z) : AW M d bc bs pc L (av_i v :: av_i x :: st) σ z := by
  intro X p l e R s m args below meth c H locs cells slots Q ls C hcs hs hH hS hL hE
  obtain ⟨hx, hb, hml, hown, hts, hret, hlk, hin, hdf, hdl, hok, hK, hG⟩ := id C
  exact va_mmin hx hb (hml.trans hL.1.symm) hown (hts _ hw1) (hts _ hw2) (hts _ hw3) (hts _ hw4) (by omega) (by rw [ax_wd_eq]; omega) (by omega) (by omega) hd (kk X p l e R s m args below meth c H locs cells slots Q ls C hcs hs hH hS hL hE)
theorem ax_abs {x : Int32} (hd : decode M.2.1 pc = .ok (.invokestatic index, 3)) (hw1 : Cond.methodLink M.1 index Lib.Math.abs.name ∈ ax_WS) (hw2 : Cond.static Lib.Math.abs.name ∈ ax_WS) (hw3 : Cond.initialized "java/lang/Math" ∈ ax_WS) (hw4 : Cond.code Lib.Math.abs.name Lib.Math.abs.code 1 (some .int) ∈ ax_WS) (hdd : 1 ≤ d) (hst : ax_wd st ≤ 8)
    (kk : AW M d bc bs (pc + 3) L (av_i (if 0 ≤ x then x else 0 - x) :: st) σ z) : AW M d bc bs pc L (av_i x :: st) σ z := by
  intro X p l e R s m args below meth c H locs cells slots Q ls C hcs hs hH hS hL hE
  obtain ⟨hx, hb, hml, hown, hts, hret, hlk, hin, hdf, hdl, hok, hK, hG⟩ := id C
  exact va_mabs hx hb (hml.trans hL.1.symm) hown (hts _ hw1) (hts _ hw2) (hts _ hw3) (hts _ hw4) (by omega) (by rw [ax_wd_eq]; omega) (by omega) (by omega) hd (kk X p l e R s m args below meth c H locs cells slots Q ls C hcs hs hH hS hL hE)
/-- a static table of Kinds -/
theorem ax_gets {i : Nat} (hd : decode M.2.1 pc = .ok (.getstatic index, 3)) (hi : i < 6) (hw : Cond.fieldLink M.1 index RX2 (ax_kn i) "[I" ∈ ax_WS) (kk : AW M d bc bs (pc + 3) L (av_r (some i) :: st) σ z) : AW M d bc bs pc L st σ z := by
  intro X p l e R s m args below meth c H locs cells slots Q ls C hcs hs hH hS hL hE
  obtain ⟨hx, hb, hml, hown, hts, hret, hlk, hin, hdf, hdl, hok, hK, hG⟩ := id C
  exact va_gets hx hb (hG.1 i hi) hS hown (hts _ hw) (fun _ h => h) hd (kk X p l e R s m args below meth c H locs cells slots Q ls C hcs hs hH hS hL hE)
/-- the String constant, its fields, and the switch of compact strings -/
theorem ax_gets2 (hd : decode M.2.1 pc = .ok (.getstatic index, 3)) (hw : Cond.fieldLink M.1 index "java/lang/String" "COMPACT_STRINGS" "Z" ∈ ax_WS) (kk : AW M d bc bs (pc + 3) L (av_i 1 :: st) σ z) : AW M d bc bs pc L st σ z := by
  intro X p l e R s m args below meth c H locs cells slots Q ls C hcs hs hH hS hL hE
  obtain ⟨hx, hb, hml, hown, hts, hret, hlk, hin, hdf, hdl, hok, hK, hG⟩ := id C
  exact va_gets hx hb hG.2.1 hS hown (hts _ hw) (fun _ h => h) hd (kk X p l e R s m args below meth c H locs cells slots Q ls C hcs hs hH hS hL hE)
theorem ax_ldcS (hd : decode M.2.1 pc = .ok (.ldc 68, 2)) (hM : M.1 = RX6) (kk : AW M d bc bs (pc + 2) L (av_r (some 8) :: st) σ z) : AW M d bc bs pc L st σ z := by
  intro X p l e R s m args below meth c H locs cells slots Q ls C hcs hs hH hS hL hE
  obtain ⟨hx, hb, hml, hown, hts, hret, hlk, hin, hdf, hdl, hok, hK, hG⟩ := id C
  rw [hM] at hown
  exact va_ldcS hx hb hown hK.2.2.2.2.1 hd (kk X p l e R s m args below meth c H locs cells slots Q ls C hcs hs hH hS hL hE)
theorem ax_getSc (hd : decode M.2.1 pc = .ok (.getfield index, 3)) (hw : Cond.fieldLink M.1 index "java/lang/String" "coder" "B" ∈ ax_WS) (kk : AW M d bc bs (pc + 3) L (av_i 0 :: st) σ z) : AW M d bc bs pc L (av_r (some 8) :: st) σ z := by
  intro X p l e R s m args below meth c H locs cells slots Q ls C hcs hs hH hS hL hE
  obtain ⟨hx, hb, hml, hown, hts, hret, hlk, hin, hdf, hdl, hok, hK, hG⟩ := id C
  exact vk_getf hx hb hG.2.2.2.1 hS hown (hts _ hw) (fun _ h => h) hd (kk X p l e R s m args below meth c H locs cells slots Q ls C hcs hs hH hS hL hE)
theorem ax_getSv (hd : decode M.2.1 pc = .ok (.getfield index, 3)) (hw : Cond.fieldLink M.1 index "java/lang/String" "value" "[B" ∈ ax_WS) (kk : AW M d bc bs (pc + 3) L (av_r (some 7) :: st) σ z) : AW M d bc bs pc L (av_r (some 8) :: st) σ z := by
  intro X p l e R s m args below meth c H locs cells slots Q ls C hcs hs hH hS hL hE
  obtain ⟨hx, hb, hml, hown, hts, hret, hlk, hin, hdf, hdl, hok, hK, hG⟩ := id C
  exact vk_getf hx hb hG.2.2.2.2 hS hown (hts _ hw) (fun _ h => h) hd (kk X p l e R s m args below meth c H locs cells slots Q ls C hcs hs hH hS hL hE)
/-- a call of the String constant -/
theorem ax_invVS (hd : decode M.2.1 pc = .ok (.invokevirtual index, 3)) (hC : AC M2 y d2 kc ks (av_r (some 8) :: As) σ (r, σ1)) (hcl : y.cls = "java/lang/String")
    (hw1 : ax_cw M2 y) (hw2 : Cond.methodLink M.1 index y ∈ ax_WS) (hw3 : Cond.instanceMethod y ∈ ax_WS) (hw4 : Cond.selects y.cls y y ∈ ax_WS) (hy : ax_cy0 y As.length) (hdd : d2 + 1 ≤ d) (hml2 : M2.2.2.2.1 ≤ 40) (hst : ax_wd st ≤ 8) (hS0 : S = As.reverse ++ av_r (some 8) :: st)
    (kk : AW M d bc bs (pc + 3) L (r.toList ++ st) σ1 z) : AW M d (bc + kc) (bs + ks) pc L S σ z := by
  refine ax_after ?_ kk
  intro X p l e R s m args below meth c H locs cells slots ls C hcs hs hH hS hL
  obtain ⟨hx, hb, hml, hown, hts, hret, hlk, hin, hdf, hdl, hok, hK, hG⟩ := id C
  obtain ⟨cell, g1, g2, g3, -⟩ := hG.2.2.1.kept hS.2.1
  rw [← hcl] at g3
  have hB : CallB R s args M.1 index y M2.2.1 M2.2.2.2.1 M2.2.2.1 (Cond.code y M2.2.1 M2.2.2.2.1 M2.2.2.1 :: ax_WS) { frames := d2, cells := kc, slots := ks, locals := 64 * d2 } kc ks As.length := callB_of As.length hts (ax_goodIn hw1.1) rfl rfl rfl (hts _ hw1.2) (hts _ hw2) hy ⟨by show d2 + 1 ≤ _; omega, by show 8 + (_ + 11) + 64 * d2 ≤ _; omega⟩
  refine ⟨(Value.ref (ax_ρ X 8) :: As.map (ax_cv (ax_ρ X))).toArray, va_runV (C := y.cls) (b := ax_ρ X 8) (As := As.map (ax_cv (ax_ρ X))) ⟨hx, hb, hml, hown, hts⟩ (hC X l hok) ⟨hB, hts _ hw3, hts _ hw4⟩ ⟨ax_blind, ⟨cell, g1, g2, g3⟩, ax_pcU C hH hS _⟩ rfl (by simp) hL.1 ?_ ?_ hd ⟨by omega, by omega⟩⟩
  · rw [hS0]
    simp [ax_cv, va_rf]
  · rw [ax_wd_eq]
    show 2 * 0 + _ ≤ 8
    omega
end AXC
end
section
/-! ===== System.arraycopy ===== -/
section AXY
variable {M : ax_M} {d bc bs pc index : Nat} {L : List (Option ax_V)} {st : List ax_V} {σ σ1 : ax_S} {z : Option ax_V × ax_S}
theorem ax_cy_of {r w : Option Nat} {sp dp n : Int32} (h : ax_cy σ r sp w dp n = some σ1) : ∃ a b na nb, r = some a ∧ w = some b ∧ 9 ≤ a ∧ 9 ≤ b ∧ a ≠ b ∧ σ.1[a]? = some (9, na) ∧ σ.1[b]? = some (9, nb) ∧ ¬ sp < 0 ∧ ¬ dp < 0 ∧ ¬ n < 0 ∧ sp.toNatClampNeg + n.toNatClampNeg ≤ na ∧ dp.toNatClampNeg + n.toNatClampNeg ≤ nb ∧ σ1 = (σ.1, (fun c k => if c = b then va_cpy (σ.2.1 a) (σ.2.1 b) sp.toNatClampNeg dp.toNatClampNeg n.toNatClampNeg k else σ.2.1 c k), σ.2.2) := by
  obtain ⟨⟨a, na⟩, h1, h2⟩ := Option.bind_eq_some_iff.mp h
  obtain ⟨⟨b, nb⟩, h3, h4⟩ := Option.bind_eq_some_iff.mp h2
  obtain ⟨e1, e2⟩ := ax_sh_of h1
  obtain ⟨e3, e4⟩ := ax_sh_of h3
  split at h4
  · cases h4
  · rename_i hn
    simp only [not_or] at hn
    obtain ⟨n1, n2, n3, n4, n5, n6, n7, n8⟩ := hn
    cases h4
    exact ⟨a, b, na, nb, e1, e3, by omega, by omega, n3, e2, e4, n4, n5, n6, by omega, by omega, rfl⟩
theorem ax_copy {r w : Option Nat} {sp dp n : Int32} (hd : decode M.2.1 pc = .ok (.invokestatic index, 3)) (hw1 : Cond.methodLink M.1 index arraycopyName ∈ ax_WS) (hw2 : Cond.native arraycopyName ∈ ax_WS) (hw3 : Cond.static arraycopyName ∈ ax_WS) (hw4 : Cond.initialized "java/lang/System" ∈ ax_WS) (hdd : 1 ≤ d) (hst : ax_wd st ≤ 8) (h : ax_cy σ r sp w dp n = some σ1)
    (kk : AW M d bc bs (pc + 3) L st σ1 z) : AW M d bc bs pc L (av_i n :: av_i dp :: av_r w :: av_i sp :: av_r r :: st) σ z := by
  intro X p l e R s m args below meth c H locs cells slots Q ls C hcs hs hH hS hL hE
  obtain ⟨hx, hb, hml, hown, hts, hret, hlk, hin, hdf, hdl, hok, hK, hG⟩ := id C
  obtain ⟨a, b, na, nb, rfl, rfl, ha8, hb8, hne, hsa, hsb, h1, h2, h3, h4, h5, rfl⟩ := ax_cy_of h
  have nn : ∀ z : Int32, ¬ z < 0 → z.toInt = (z.toNatClampNeg : Int) := by
    intro z hz
    have hz0 : (0 : Int) ≤ z.toInt := by
      have := Int32.not_lt.mp hz
      simpa using Int32.le_iff_toInt_le.mp this
    show z.toInt = ((z.toInt.toNat : Nat) : Int)
    omega
  have hI : ∀ k, ax_isI 9 k = true := fun k => rfl
  obtain ⟨ca, g1, g2, g3, g4, -, g6⟩ := ax_at_arr hK (hH.2.2 a _ na hsa) (by omega) (by omega)
  have g6 := g6 ha8
  obtain ⟨cb, f1, f2, f3, f4, -, f6⟩ := ax_at_arr hK (hH.2.2 b _ nb hsb) (by omega) (by omega)
  have f6 := f6 hb8
  have hca : ca = vp_cell (X.2.1 9) (na, .inl (σ.2.1 a)) := by
    rw [g6, vp_cell_i]
    congr 1
  have hcb : cb = vp_cell (X.2.1 9) (nb, .inl (σ.2.1 b)) := by
    rw [f6, vp_cell_i]
    congr 1
  subst hca
  subst hcb
  obtain ⟨-, k0, hk0, cm0, hkk0⟩ := (hK.2.1 9 (by omega) (by omega)).1 na (fun j => .int (σ.2.1 a j))
  intro T hT X0
  obtain ⟨vm', X', step⟩ := X0.arraycopy hx hown (hts _ hw1) (hts _ hw2) (hts _ hw3) (hts _ hw4) (src := ax_ρ X a) (dst := ax_ρ X b) (cs := vp_cell (X.2.1 9) (na, .inl (σ.2.1 a))) (cd := vp_cell (X.2.1 9) (nb, .inl (σ.2.1 b))) (srcPos := sp) (destPos := dp) (n := n) (by rw [hT]; exact g1) (by rw [hT]; exact f1)
    (fun _ h => by cases h) (fun _ h => by cases h) (fun h => by cases h) (fun h => by cases h) hk0 hk0 hkk0 hkk0 (by rfl) h1 h2 h3
    (by rw [nn sp h1, nn n h3]; show ¬ _ > ((arrV (X.2.1 9) na (fun j => .int (σ.2.1 a j))).slots.size : Int); rw [arrV_size]; omega)
    (by rw [nn dp h2, nn n h3]; show ¬ _ > ((arrV (X.2.1 9) nb (fun j => .int (σ.2.1 b j))).slots.size : Int); rw [arrV_size]; omega)
    (fun vm₁ _ i hi => by
      have e : (vp_cell (X.2.1 9) (na, .inl (σ.2.1 a))).slots.getD (sp.toNatClampNeg + i) .null = .int (σ.2.1 a (sp.toNatClampNeg + i)) := by
        show (arrV (X.2.1 9) na (fun j => .int (σ.2.1 a j))).slots.getD _ _ = _
        rw [Array.getD_eq_getD_getElem?, arrV_read _ _ (by omega)]
        rfl
      refine ⟨?_, ?_⟩
      · rw [e]
        rfl
      · rw [e]
        exact trivial)
    (g := F0 m pc ls (.int n :: .int dp :: .ref (ax_ρ X b) :: .int sp :: .ref (ax_ρ X a) :: st.map (ax_cv (ax_ρ X)))) rfl (by rw [hml]; exact hL.1) (rest := st.map (ax_cv (ax_ρ X))) rfl (by rw [hb]; exact hd) (by omega) (by
      rw [ax_wd_eq]
      have : nativeFrameWords "java/lang/System" "arraycopy" 5 ≤ 40 := by decide +kernel
      show 2 * 0 + _ + _ ≤ _
      omega)
  have e1 : copied (vp_cell (X.2.1 9) (na, .inl (σ.2.1 a))) (vp_cell (X.2.1 9) (nb, .inl (σ.2.1 b))) sp dp n = vp_cell (X.2.1 9) (nb, .inl (va_cpy (σ.2.1 a) (σ.2.1 b) sp.toNatClampNeg dp.toNatClampNeg n.toNatClampNeg)) := va_copied (fun z => .int z) (X.2.1 9) (X.2.1 9) (σ.2.1 a) (σ.2.1 b) h4
  rw [e1] at X' step
  have hl : ax_ρ X b < H.size := (Array.getElem?_eq_some_iff.mp f1).1
  generalize hnc : vp_cell (X.2.1 9) (nb, .inl (va_cpy (σ.2.1 a) (σ.2.1 b) sp.toNatClampNeg dp.toNatClampNeg n.toNatClampNeg)) = nc at X' step
  have hheap : ((T.setVm vm').setCell (ax_ρ X b) nc).heap = H.setIfInBounds (ax_ρ X b) nc := by rw [← hT]; rfl
  have oq : ∀ q : Nat, q ≠ ax_ρ X b → (H.setIfInBounds (ax_ρ X b) nc)[q]? = H[q]? := fun q hq => by simp [Array.getElem?_setIfInBounds, Ne.symm hq]
  have hself : (H.setIfInBounds (ax_ρ X b) nc)[ax_ρ X b]? = some nc := by simp [Array.getElem?_setIfInBounds, hl]
  have hH2 : ax_H X (σ.1, (fun c k => if c = b then va_cpy (σ.2.1 a) (σ.2.1 b) sp.toNatClampNeg dp.toNatClampNeg n.toNatClampNeg k else σ.2.1 c k), σ.2.2) (H.setIfInBounds (ax_ρ X b) nc) := by
    refine hH.upd hok hb8 rfl (by simp) oq (fun c hc k => if_neg hc) (fun c hc k => rfl) (fun t' n' hsh' => ?_)
    cases hsb.symm.trans hsh'
    unfold ax_at
    rw [if_neg (by omega), if_neg (by omega), if_neg (by omega)]
    refine ⟨by omega, hself.trans ?_⟩
    rw [← hnc, vp_cell_i]
    congr 2
    funext j
    simp [ax_sv, hI]
    rfl
  have hS2 : va_S (ax_A X) s.heap (H.setIfInBounds (ax_ρ X b) nc) locs := ⟨by simpa using hS.1, fun q g1 g2 => by
      rw [oq q (fun e => g2 (by rw [e]; exact ax_ρ_A hok hb8))]
      exact hS.2.1 q g1 g2, hS.2.2⟩
  obtain ⟨t, a1, b1⟩ := kk X p l e R s m args below meth c _ _ cells slots Q ls C hcs hs hH2 ⟨hS2.1, hS2.2.1, fun q hq => by
      rcases List.mem_append.mp hq with h | h
      · exact hS.2.2 q h
      · obtain ⟨z, -, hz⟩ := List.mem_map.mp h
        rw [← hz]
        exact ax_ρ_A hok hb8⟩ hL hE _ hheap X'
  exact ⟨t, step t a1, b1⟩
end AXY
end
section
/-! ===== calls without new cells, in the form that the program lays them; words by their places ===== -/
theorem ax_wi {w : Cond} (i : Nat) (h : lw_tbl[i]? = some w) (hg : goodWord w = true) : w ∈ ax_WS := List.mem_filter.mpr ⟨List.mem_of_getElem? h, hg⟩
theorem ax_wn {w : Cond} (i : Nat) (h : lw_tbl[i]? = some w) (hg : ax_isN w = true) : w ∈ ax_NW := List.mem_filter.mpr ⟨List.mem_of_getElem? h, hg⟩
section AXD
variable {M M2 : ax_M} {y : MethodName} {d d2 pc index : Nat} {L : List (Option ax_V)} {st S As : List ax_V} {σ σ1 : ax_S} {z : Option ax_V × ax_S} {r : Option ax_V}
theorem ax_cV {t : Nat} {th : Option Nat} {a : Nat × Nat} (hd : decode M.2.1 pc = .ok (.invokevirtual index, 3)) (hsh : ax_sh σ t th = some a) (hC : AC M2 y d2 0 0 (av_r th :: As) σ (r, σ1)) (hcl : (vwCl[t]?).map (fun q => q.1) = some y.cls)
    (hw1 : ax_cw M2 y) (hw2 : Cond.methodLink M.1 index y ∈ ax_WS) (hw3 : Cond.instanceMethod y ∈ ax_WS) (hw4 : Cond.selects y.cls y y ∈ ax_WS) (hy : ax_cy0 y As.length) (hdd : d2 + 1 ≤ d) (hml2 : M2.2.2.2.1 ≤ 40) (hst : ax_wd st ≤ 8) (hS0 : S = As.reverse ++ av_r th :: st)
    (kk : AW M d 0 0 (pc + 3) L (r.toList ++ st) σ1 z) : AW M d 0 0 pc L S σ z := by
  obtain ⟨a, n⟩ := a
  obtain ⟨rfl, -⟩ := ax_sh_of hsh
  exact ax_invV (bc := 0) (bs := 0) (kc := 0) (ks := 0) hd hC hsh hcl hw1 hw2 hw3 hw4 hy hdd hml2 hst hS0 kk
theorem ax_cS (hd : decode M.2.1 pc = .ok (.invokestatic index, 3)) (hC : AC M2 y d2 0 0 As σ (r, σ1)) (hw1 : ax_cw M2 y) (hw2 : Cond.methodLink M.1 index y ∈ ax_WS) (hw3 : Cond.static y ∈ ax_WS) (hy : ax_cy0 y As.length) (hdd : d2 + 1 ≤ d) (hml2 : M2.2.2.2.1 ≤ 40) (hst : ax_wd st ≤ 8) (hS0 : S = As.reverse ++ st)
    (kk : AW M d 0 0 (pc + 3) L (r.toList ++ st) σ1 z) : AW M d 0 0 pc L S σ z := ax_invS (bc := 0) (bs := 0) (kc := 0) (ks := 0) hd hC hw1 hw2 hw3 hy hdd hml2 hst hS0 kk
theorem ax_cSN {host : String} (hd : decode M.2.1 pc = .ok (.invokestatic index, 3)) (hC : AC M2 y d2 0 0 As σ (r, σ1)) (hw1 : ax_cw M2 y) (hw2 : Cond.methodLinkNest M.1 index y host ∈ ax_NW) (hw3 : Cond.static y ∈ ax_WS) (hy : ax_cy0 y As.length) (hdd : d2 + 1 ≤ d) (hml2 : M2.2.2.2.1 ≤ 40) (hst : ax_wd st ≤ 8) (hS0 : S = As.reverse ++ st)
    (kk : AW M d 0 0 (pc + 3) L (r.toList ++ st) σ1 z) : AW M d 0 0 pc L S σ z := ax_invSN (bc := 0) (bs := 0) (kc := 0) (ks := 0) hd hC hw1 hw2 hw3 hy hdd hml2 hst hS0 kk
theorem ax_cVS (hd : decode M.2.1 pc = .ok (.invokevirtual index, 3)) (hC : AC M2 y d2 0 0 (av_r (some 8) :: As) σ (r, σ1)) (hcl : y.cls = "java/lang/String")
    (hw1 : ax_cw M2 y) (hw2 : Cond.methodLink M.1 index y ∈ ax_WS) (hw3 : Cond.instanceMethod y ∈ ax_WS) (hw4 : Cond.selects y.cls y y ∈ ax_WS) (hy : ax_cy0 y As.length) (hdd : d2 + 1 ≤ d) (hml2 : M2.2.2.2.1 ≤ 40) (hst : ax_wd st ≤ 8) (hS0 : S = As.reverse ++ av_r (some 8) :: st)
    (kk : AW M d 0 0 (pc + 3) L (r.toList ++ st) σ1 z) : AW M d 0 0 pc L S σ z := ax_invVS (bc := 0) (bs := 0) (kc := 0) (ks := 0) hd hC hcl hw1 hw2 hw3 hw4 hy hdd hml2 hst hS0 kk
/-- a constructor's call: the receiver is an object of this kind -/
theorem ax_cI {bc bs kc ks : Nat} {th : Option Nat} {t : Nat} {a : Nat × Nat} (hd : decode M.2.1 pc = .ok (.invokespecial index, 3)) (hsh : ax_sh σ t th = some a) (hC : AC M2 y d2 kc ks (av_r th :: As) σ (none, σ1)) (hn : y.name = "<init>") (hr2 : M2.2.2.1 = none)
    (hw1 : ax_cw M2 y) (hw2 : Cond.methodLink M.1 index y ∈ ax_WS) (hw3 : Cond.instanceMethod y ∈ ax_WS) (hy : ax_cy0 y As.length) (hdd : d2 + 1 ≤ d) (hml2 : M2.2.2.2.1 ≤ 40) (hst : ax_wd st ≤ 8) (hS0 : S = As.reverse ++ av_r th :: st)
    (kk : AW M d bc bs (pc + 3) L st σ1 z) : AW M d (bc + kc) (bs + ks) pc L S σ z := by
  obtain ⟨a, n⟩ := a
  obtain ⟨rfl, -⟩ := ax_sh_of hsh
  exact ax_invI hd hC hn hr2 hw1 hw2 hw3 hy hdd hml2 hst hS0 kk
theorem ax_cIN {bc bs kc ks : Nat} {th : Option Nat} {t : Nat} {a : Nat × Nat} {host : String} (hd : decode M.2.1 pc = .ok (.invokespecial index, 3)) (hsh : ax_sh σ t th = some a) (hC : AC M2 y d2 kc ks (av_r th :: As) σ (none, σ1)) (hn : y.name = "<init>") (hr2 : M2.2.2.1 = none)
    (hw1 : ax_cw M2 y) (hw2 : Cond.methodLinkNest M.1 index y host ∈ ax_NW) (hw3 : Cond.instanceMethod y ∈ ax_WS) (hy : ax_cy0 y As.length) (hdd : d2 + 1 ≤ d) (hml2 : M2.2.2.2.1 ≤ 40) (hst : ax_wd st ≤ 8) (hS0 : S = As.reverse ++ av_r th :: st)
    (kk : AW M d bc bs (pc + 3) L st σ1 z) : AW M d (bc + kc) (bs + ks) pc L S σ z := by
  obtain ⟨a, n⟩ := a
  obtain ⟨rfl, -⟩ := ax_sh_of hsh
  exact ax_invIN hd hC hn hr2 hw1 hw2 hw3 hy hdd hml2 hst hS0 kk
theorem ax_cO {bc bs : Nat} {th : Option Nat} {t : Nat} {a : Nat × Nat} (hd : decode M.2.1 pc = .ok (.invokespecial index, 3)) (hsh : ax_sh σ t th = some a) (hw1 : Cond.methodLink M.1 index Lib.objectInit ∈ ax_WS) (hw2 : Cond.instanceMethod Lib.objectInit ∈ ax_WS) (hw3 : Cond.code Lib.objectInit ⟨#[0xb1]⟩ 1 none ∈ ax_WS) (hdd : 1 ≤ d) (hst : ax_wd st ≤ 8)
    (kk : AW M d bc bs (pc + 3) L st σ z) : AW M d bc bs pc L (av_r th :: st) σ z := by
  obtain ⟨a, n⟩ := a
  obtain ⟨rfl, -⟩ := ax_sh_of hsh
  exact ax_obj hd hw1 hw2 hw3 hdd hst kk
/-- an answer of a boolean method is 0 or 1 -/
def ax_bz (o : Option (Int32 × ax_S)) : Option (Int32 × ax_S) := o.bind (fun q => if q.1 = 0 ∨ q.1 = 1 then some q else none)
theorem ax_bz_of {o : Option (Int32 × ax_S)} {q : Int32 × ax_S} (h : ax_bz o = some q) : o = some q ∧ narrow .boolean (.int q.1) = .int q.1 := by
  obtain ⟨q', h1, h2⟩ := Option.bind_eq_some_iff.mp h
  split at h2
  · rename_i hc
    cases h2
    refine ⟨h1, ?_⟩
    rcases hc with hc | hc <;> rw [hc] <;> rfl
  · cases h2
def ax_by (o : Option (Int32 × ax_S)) : Option (Int32 × ax_S) := o.bind (fun q => if q.1.toInt8.toInt32 = q.1 then some q else none)
theorem ax_by_of {o : Option (Int32 × ax_S)} {q : Int32 × ax_S} (h : ax_by o = some q) : o = some q ∧ narrow .byte (.int q.1) = .int q.1 := by
  obtain ⟨q', h1, h2⟩ := Option.bind_eq_some_iff.mp h
  split at h2
  · rename_i hc
    cases h2
    exact ⟨h1, by show Value.int q.1.toInt8.toInt32 = _; rw [hc]⟩
  · cases h2
theorem ax_01_of {x y : Int32} (h : ax_01 x = some y) : narrow .boolean (.int x) = .int x ∧ fits .boolean (.int x) = true := by
  unfold ax_01 at h
  split at h
  · rename_i hc
    rcases hc with hc | hc <;> rw [hc] <;> exact ⟨rfl, rfl⟩
  · cases h
end AXD
end
section
theorem cy_J0_coder_7d493 : ax_cy0 yJ0_coder_7d493 0 := by
  unfold ax_cy0
  exact ⟨by decide +kernel, by decide +kernel, by decide +kernel⟩
theorem cy_J0_indexOf_0f7a4 : ax_cy0 yJ0_indexOf_0f7a4 1 := by
  unfold ax_cy0
  exact ⟨by decide +kernel, by decide +kernel, by decide +kernel⟩
theorem cy_J0_indexOf_7cf53 : ax_cy0 yJ0_indexOf_7cf53 2 := by
  unfold ax_cy0
  exact ⟨by decide +kernel, by decide +kernel, by decide +kernel⟩
theorem cy_J0_isLatin1_aae02 : ax_cy0 yJ0_isLatin1_aae02 0 := by
  unfold ax_cy0
  exact ⟨by decide +kernel, by decide +kernel, by decide +kernel⟩
theorem cy_J0_length_8abf5 : ax_cy0 yJ0_length_8abf5 0 := by
  unfold ax_cy0
  exact ⟨by decide +kernel, by decide +kernel, by decide +kernel⟩
theorem cy_J1_canEncode_9a6ad : ax_cy0 yJ1_canEncode_9a6ad 1 := by
  unfold ax_cy0
  exact ⟨by decide +kernel, by decide +kernel, by decide +kernel⟩
theorem cy_J1_indexOfChar_4cfef : ax_cy0 yJ1_indexOfChar_4cfef 4 := by
  unfold ax_cy0
  exact ⟨by decide +kernel, by decide +kernel, by decide +kernel⟩
theorem cy_J1_indexOf_4cfef : ax_cy0 yJ1_indexOf_4cfef 4 := by
  unfold ax_cy0
  exact ⟨by decide +kernel, by decide +kernel, by decide +kernel⟩
theorem cy_J6_bitCount_0f7a4 : ax_cy0 yJ6_bitCount_0f7a4 1 := by
  unfold ax_cy0
  exact ⟨by decide +kernel, by decide +kernel, by decide +kernel⟩
theorem cy_X0_admit : ax_cy0 yX0_admit 2 := by
  unfold ax_cy0
  exact ⟨by decide +kernel, by decide +kernel, by decide +kernel⟩
theorem cy_X0_changeRoom : ax_cy0 yX0_changeRoom 1 := by
  unfold ax_cy0
  exact ⟨by decide +kernel, by decide +kernel, by decide +kernel⟩
theorem cy_X0_dropOldest : ax_cy0 yX0_dropOldest 0 := by
  unfold ax_cy0
  exact ⟨by decide +kernel, by decide +kernel, by decide +kernel⟩
theorem cy_X0_empty : ax_cy0 yX0_empty 0 := by
  unfold ax_cy0
  exact ⟨by decide +kernel, by decide +kernel, by decide +kernel⟩
theorem cy_X0_find : ax_cy0 yX0_find 2 := by
  unfold ax_cy0
  exact ⟨by decide +kernel, by decide +kernel, by decide +kernel⟩
theorem cy_X0_hit : ax_cy0 yX0_hit 1 := by
  unfold ax_cy0
  exact ⟨by decide +kernel, by decide +kernel, by decide +kernel⟩
theorem cy_X0_init : ax_cy0 yX0_init 0 := by
  unfold ax_cy0
  exact ⟨by decide +kernel, by decide +kernel, by decide +kernel⟩
theorem cy_X0_makeVoid : ax_cy0 yX0_makeVoid 3 := by
  unfold ax_cy0
  exact ⟨by decide +kernel, by decide +kernel, by decide +kernel⟩
theorem cy_X0_makeVoidInOne : ax_cy0 yX0_makeVoidInOne 5 := by
  unfold ax_cy0
  exact ⟨by decide +kernel, by decide +kernel, by decide +kernel⟩
theorem cy_X0_remove : ax_cy0 yX0_remove 1 := by
  unfold ax_cy0
  exact ⟨by decide +kernel, by decide +kernel, by decide +kernel⟩
theorem cy_X0_touch : ax_cy0 yX0_touch 1 := by
  unfold ax_cy0
  exact ⟨by decide +kernel, by decide +kernel, by decide +kernel⟩
theorem cy_X10_addNode : ax_cy0 yX10_addNode 1 := by
  unfold ax_cy0
  exact ⟨by decide +kernel, by decide +kernel, by decide +kernel⟩
theorem cy_X10_adds : ax_cy0 yX10_adds 1 := by
  unfold ax_cy0
  exact ⟨by decide +kernel, by decide +kernel, by decide +kernel⟩
theorem cy_X10_append : ax_cy0 yX10_append 1 := by
  unfold ax_cy0
  exact ⟨by decide +kernel, by decide +kernel, by decide +kernel⟩
theorem cy_X10_asks : ax_cy0 yX10_asks 2 := by
  unfold ax_cy0
  exact ⟨by decide +kernel, by decide +kernel, by decide +kernel⟩
theorem cy_X10_at : ax_cy0 yX10_at 2 := by
  unfold ax_cy0
  exact ⟨by decide +kernel, by decide +kernel, by decide +kernel⟩
theorem cy_X10_begins : ax_cy0 yX10_begins 0 := by
  unfold ax_cy0
  exact ⟨by decide +kernel, by decide +kernel, by decide +kernel⟩
theorem cy_X10_blurred : ax_cy0 yX10_blurred 4 := by
  unfold ax_cy0
  exact ⟨by decide +kernel, by decide +kernel, by decide +kernel⟩
theorem cy_X10_build : ax_cy0 yX10_build 0 := by
  unfold ax_cy0
  exact ⟨by decide +kernel, by decide +kernel, by decide +kernel⟩
theorem cy_X10_checksum : ax_cy0 yX10_checksum 0 := by
  unfold ax_cy0
  exact ⟨by decide +kernel, by decide +kernel, by decide +kernel⟩
theorem cy_X10_clear : ax_cy0 yX10_clear 0 := by
  unfold ax_cy0
  exact ⟨by decide +kernel, by decide +kernel, by decide +kernel⟩
theorem cy_X10_clearText : ax_cy0 yX10_clearText 0 := by
  unfold ax_cy0
  exact ⟨by decide +kernel, by decide +kernel, by decide +kernel⟩
theorem cy_X10_compare : ax_cy0 yX10_compare 3 := by
  unfold ax_cy0
  exact ⟨by decide +kernel, by decide +kernel, by decide +kernel⟩
theorem cy_X10_connect : ax_cy0 yX10_connect 3 := by
  unfold ax_cy0
  exact ⟨by decide +kernel, by decide +kernel, by decide +kernel⟩
theorem cy_X10_count : ax_cy0 yX10_count 1 := by
  unfold ax_cy0
  exact ⟨by decide +kernel, by decide +kernel, by decide +kernel⟩
theorem cy_X10_countOf : ax_cy0 yX10_countOf 1 := by
  unfold ax_cy0
  exact ⟨by decide +kernel, by decide +kernel, by decide +kernel⟩
theorem cy_X10_dependents : ax_cy0 yX10_dependents 1 := by
  unfold ax_cy0
  exact ⟨by decide +kernel, by decide +kernel, by decide +kernel⟩
theorem cy_X10_depthOf : ax_cy0 yX10_depthOf 1 := by
  unfold ax_cy0
  exact ⟨by decide +kernel, by decide +kernel, by decide +kernel⟩
theorem cy_X10_drops : ax_cy0 yX10_drops 1 := by
  unfold ax_cy0
  exact ⟨by decide +kernel, by decide +kernel, by decide +kernel⟩
theorem cy_X10_ends : ax_cy0 yX10_ends 1 := by
  unfold ax_cy0
  exact ⟨by decide +kernel, by decide +kernel, by decide +kernel⟩
theorem cy_X10_faultDepth : ax_cy0 yX10_faultDepth 0 := by
  unfold ax_cy0
  exact ⟨by decide +kernel, by decide +kernel, by decide +kernel⟩
theorem cy_X10_faultPosition : ax_cy0 yX10_faultPosition 0 := by
  unfold ax_cy0
  exact ⟨by decide +kernel, by decide +kernel, by decide +kernel⟩
theorem cy_X10_find : ax_cy0 yX10_find 2 := by
  unfold ax_cy0
  exact ⟨by decide +kernel, by decide +kernel, by decide +kernel⟩
theorem cy_X10_first : ax_cy0 yX10_first 2 := by
  unfold ax_cy0
  exact ⟨by decide +kernel, by decide +kernel, by decide +kernel⟩
theorem cy_X10_here : ax_cy0 yX10_here 0 := by
  unfold ax_cy0
  exact ⟨by decide +kernel, by decide +kernel, by decide +kernel⟩
theorem cy_X10_high : ax_cy0 yX10_high 2 := by
  unfold ax_cy0
  exact ⟨by decide +kernel, by decide +kernel, by decide +kernel⟩
theorem cy_X10_in : ax_cy0 yX10_in 3 := by
  unfold ax_cy0
  exact ⟨by decide +kernel, by decide +kernel, by decide +kernel⟩
theorem cy_X10_init : ax_cy0 yX10_init 0 := by
  unfold ax_cy0
  exact ⟨by decide +kernel, by decide +kernel, by decide +kernel⟩
theorem cy_X10_input : ax_cy0 yX10_input 2 := by
  unfold ax_cy0
  exact ⟨by decide +kernel, by decide +kernel, by decide +kernel⟩
theorem cy_X10_isCached : ax_cy0 yX10_isCached 2 := by
  unfold ax_cy0
  exact ⟨by decide +kernel, by decide +kernel, by decide +kernel⟩
theorem cy_X10_isDigit : ax_cy0 yX10_isDigit 0 := by
  unfold ax_cy0
  exact ⟨by decide +kernel, by decide +kernel, by decide +kernel⟩
theorem cy_X10_isInRange : ax_cy0 yX10_isInRange 2 := by
  unfold ax_cy0
  exact ⟨by decide +kernel, by decide +kernel, by decide +kernel⟩
theorem cy_X10_isInput : ax_cy0 yX10_isInput 2 := by
  unfold ax_cy0
  exact ⟨by decide +kernel, by decide +kernel, by decide +kernel⟩
theorem cy_X10_isNode : ax_cy0 yX10_isNode 1 := by
  unfold ax_cy0
  exact ⟨by decide +kernel, by decide +kernel, by decide +kernel⟩
theorem cy_X10_isParameter : ax_cy0 yX10_isParameter 2 := by
  unfold ax_cy0
  exact ⟨by decide +kernel, by decide +kernel, by decide +kernel⟩
theorem cy_X10_isPicture : ax_cy0 yX10_isPicture 2 := by
  unfold ax_cy0
  exact ⟨by decide +kernel, by decide +kernel, by decide +kernel⟩
theorem cy_X10_isReady : ax_cy0 yX10_isReady 2 := by
  unfold ax_cy0
  exact ⟨by decide +kernel, by decide +kernel, by decide +kernel⟩
theorem cy_X10_isText : ax_cy0 yX10_isText 0 := by
  unfold ax_cy0
  exact ⟨by decide +kernel, by decide +kernel, by decide +kernel⟩
theorem cy_X10_keyed : ax_cy0 yX10_keyed 4 := by
  unfold ax_cy0
  exact ⟨by decide +kernel, by decide +kernel, by decide +kernel⟩
theorem cy_X10_kind : ax_cy0 yX10_kind 1 := by
  unfold ax_cy0
  exact ⟨by decide +kernel, by decide +kernel, by decide +kernel⟩
theorem cy_X10_kindHere : ax_cy0 yX10_kindHere 0 := by
  unfold ax_cy0
  exact ⟨by decide +kernel, by decide +kernel, by decide +kernel⟩
theorem cy_X10_limit : ax_cy0 yX10_limit 1 := by
  unfold ax_cy0
  exact ⟨by decide +kernel, by decide +kernel, by decide +kernel⟩
theorem cy_X10_low : ax_cy0 yX10_low 1 := by
  unfold ax_cy0
  exact ⟨by decide +kernel, by decide +kernel, by decide +kernel⟩
theorem cy_X10_made : ax_cy0 yX10_made 3 := by
  unfold ax_cy0
  exact ⟨by decide +kernel, by decide +kernel, by decide +kernel⟩
theorem cy_X10_makes : ax_cy0 yX10_makes 2 := by
  unfold ax_cy0
  exact ⟨by decide +kernel, by decide +kernel, by decide +kernel⟩
theorem cy_X10_makesRoom : ax_cy0 yX10_makesRoom 1 := by
  unfold ax_cy0
  exact ⟨by decide +kernel, by decide +kernel, by decide +kernel⟩
theorem cy_X10_more : ax_cy0 yX10_more 2 := by
  unfold ax_cy0
  exact ⟨by decide +kernel, by decide +kernel, by decide +kernel⟩
theorem cy_X10_node : ax_cy0 yX10_node 2 := by
  unfold ax_cy0
  exact ⟨by decide +kernel, by decide +kernel, by decide +kernel⟩
theorem cy_X10_nodeTells : ax_cy0 yX10_nodeTells 2 := by
  unfold ax_cy0
  exact ⟨by decide +kernel, by decide +kernel, by decide +kernel⟩
theorem cy_X10_nodes : ax_cy0 yX10_nodes 0 := by
  unfold ax_cy0
  exact ⟨by decide +kernel, by decide +kernel, by decide +kernel⟩
theorem cy_X10_number : ax_cy0 yX10_number 2 := by
  unfold ax_cy0
  exact ⟨by decide +kernel, by decide +kernel, by decide +kernel⟩
theorem cy_X10_oldest : ax_cy0 yX10_oldest 0 := by
  unfold ax_cy0
  exact ⟨by decide +kernel, by decide +kernel, by decide +kernel⟩
theorem cy_X10_parameter : ax_cy0 yX10_parameter 2 := by
  unfold ax_cy0
  exact ⟨by decide +kernel, by decide +kernel, by decide +kernel⟩
theorem cy_X10_picture : ax_cy0 yX10_picture 2 := by
  unfold ax_cy0
  exact ⟨by decide +kernel, by decide +kernel, by decide +kernel⟩
theorem cy_X10_placeOf : ax_cy0 yX10_placeOf 1 := by
  unfold ax_cy0
  exact ⟨by decide +kernel, by decide +kernel, by decide +kernel⟩
theorem cy_X10_restore : ax_cy0 yX10_restore 1 := by
  unfold ax_cy0
  exact ⟨by decide +kernel, by decide +kernel, by decide +kernel⟩
theorem cy_X10_save : ax_cy0 yX10_save 1 := by
  unfold ax_cy0
  exact ⟨by decide +kernel, by decide +kernel, by decide +kernel⟩
theorem cy_X10_scope : ax_cy0 yX10_scope 4 := by
  unfold ax_cy0
  exact ⟨by decide +kernel, by decide +kernel, by decide +kernel⟩
theorem cy_X10_seen : ax_cy0 yX10_seen 4 := by
  unfold ax_cy0
  exact ⟨by decide +kernel, by decide +kernel, by decide +kernel⟩
theorem cy_X10_set : ax_cy0 yX10_set 3 := by
  unfold ax_cy0
  exact ⟨by decide +kernel, by decide +kernel, by decide +kernel⟩
theorem cy_X10_setRange : ax_cy0 yX10_setRange 3 := by
  unfold ax_cy0
  exact ⟨by decide +kernel, by decide +kernel, by decide +kernel⟩
theorem cy_X10_setRoom : ax_cy0 yX10_setRoom 1 := by
  unfold ax_cy0
  exact ⟨by decide +kernel, by decide +kernel, by decide +kernel⟩
theorem cy_X10_size : ax_cy0 yX10_size 1 := by
  unfold ax_cy0
  exact ⟨by decide +kernel, by decide +kernel, by decide +kernel⟩
theorem cy_X10_sum : ax_cy0 yX10_sum 4 := by
  unfold ax_cy0
  exact ⟨by decide +kernel, by decide +kernel, by decide +kernel⟩
theorem cy_X10_sums : ax_cy0 yX10_sums 2 := by
  unfold ax_cy0
  exact ⟨by decide +kernel, by decide +kernel, by decide +kernel⟩
theorem cy_X10_takes : ax_cy0 yX10_takes 1 := by
  unfold ax_cy0
  exact ⟨by decide +kernel, by decide +kernel, by decide +kernel⟩
theorem cy_X10_tells : ax_cy0 yX10_tells 1 := by
  unfold ax_cy0
  exact ⟨by decide +kernel, by decide +kernel, by decide +kernel⟩
theorem cy_X10_uses : ax_cy0 yX10_uses 1 := by
  unfold ax_cy0
  exact ⟨by decide +kernel, by decide +kernel, by decide +kernel⟩
theorem cy_X10_value : ax_cy0 yX10_value 5 := by
  unfold ax_cy0
  exact ⟨by decide +kernel, by decide +kernel, by decide +kernel⟩
theorem cy_X10_voids : ax_cy0 yX10_voids 5 := by
  unfold ax_cy0
  exact ⟨by decide +kernel, by decide +kernel, by decide +kernel⟩
theorem cy_X1_add : ax_cy0 yX1_add 1 := by
  unfold ax_cy0
  exact ⟨by decide +kernel, by decide +kernel, by decide +kernel⟩
theorem cy_X1_addAll : ax_cy0 yX1_addAll 2 := by
  unfold ax_cy0
  exact ⟨by decide +kernel, by decide +kernel, by decide +kernel⟩
theorem cy_X1_arrange : ax_cy0 yX1_arrange 0 := by
  unfold ax_cy0
  exact ⟨by decide +kernel, by decide +kernel, by decide +kernel⟩
theorem cy_X1_copyFrom : ax_cy0 yX1_copyFrom 1 := by
  unfold ax_cy0
  exact ⟨by decide +kernel, by decide +kernel, by decide +kernel⟩
theorem cy_X1_dependents : ax_cy0 yX1_dependents 1 := by
  unfold ax_cy0
  exact ⟨by decide +kernel, by decide +kernel, by decide +kernel⟩
theorem cy_X1_depthBehindInputs : ax_cy0 yX1_depthBehindInputs 1 := by
  unfold ax_cy0
  exact ⟨by decide +kernel, by decide +kernel, by decide +kernel⟩
theorem cy_X1_firstReady : ax_cy0 yX1_firstReady 1 := by
  unfold ax_cy0
  exact ⟨by decide +kernel, by decide +kernel, by decide +kernel⟩
theorem cy_X1_has : ax_cy0 yX1_has 1 := by
  unfold ax_cy0
  exact ⟨by decide +kernel, by decide +kernel, by decide +kernel⟩
theorem cy_X1_hasInput : ax_cy0 yX1_hasInput 2 := by
  unfold ax_cy0
  exact ⟨by decide +kernel, by decide +kernel, by decide +kernel⟩
theorem cy_X1_hasParameter : ax_cy0 yX1_hasParameter 2 := by
  unfold ax_cy0
  exact ⟨by decide +kernel, by decide +kernel, by decide +kernel⟩
theorem cy_X1_init : ax_cy0 yX1_init 0 := by
  unfold ax_cy0
  exact ⟨by decide +kernel, by decide +kernel, by decide +kernel⟩
theorem cy_X1_link : ax_cy0 yX1_link 3 := by
  unfold ax_cy0
  exact ⟨by decide +kernel, by decide +kernel, by decide +kernel⟩
theorem cy_X1_removeAll : ax_cy0 yX1_removeAll 0 := by
  unfold ax_cy0
  exact ⟨by decide +kernel, by decide +kernel, by decide +kernel⟩
theorem cy_X2_atFirst : ax_cy0 yX2_atFirst 2 := by
  unfold ax_cy0
  exact ⟨by decide +kernel, by decide +kernel, by decide +kernel⟩
theorem cy_X2_entry : ax_cy0 yX2_entry 2 := by
  unfold ax_cy0
  exact ⟨by decide +kernel, by decide +kernel, by decide +kernel⟩
theorem cy_X2_highest : ax_cy0 yX2_highest 2 := by
  unfold ax_cy0
  exact ⟨by decide +kernel, by decide +kernel, by decide +kernel⟩
theorem cy_X2_inputs : ax_cy0 yX2_inputs 1 := by
  unfold ax_cy0
  exact ⟨by decide +kernel, by decide +kernel, by decide +kernel⟩
theorem cy_X2_lowest : ax_cy0 yX2_lowest 2 := by
  unfold ax_cy0
  exact ⟨by decide +kernel, by decide +kernel, by decide +kernel⟩
theorem cy_X2_numbers : ax_cy0 yX2_numbers 1 := by
  unfold ax_cy0
  exact ⟨by decide +kernel, by decide +kernel, by decide +kernel⟩
theorem cy_X2_parameters : ax_cy0 yX2_parameters 1 := by
  unfold ax_cy0
  exact ⟨by decide +kernel, by decide +kernel, by decide +kernel⟩
theorem cy_X3_copyFrom : ax_cy0 yX3_copyFrom 1 := by
  unfold ax_cy0
  exact ⟨by decide +kernel, by decide +kernel, by decide +kernel⟩
theorem cy_X3_init : ax_cy0 yX3_init 0 := by
  unfold ax_cy0
  exact ⟨by decide +kernel, by decide +kernel, by decide +kernel⟩
theorem cy_X3_inputSet : ax_cy0 yX3_inputSet 0 := by
  unfold ax_cy0
  exact ⟨by decide +kernel, by decide +kernel, by decide +kernel⟩
theorem cy_X3_reset : ax_cy0 yX3_reset 1 := by
  unfold ax_cy0
  exact ⟨by decide +kernel, by decide +kernel, by decide +kernel⟩
theorem cy_X4_mask : ax_cy0 yX4_mask 4 := by
  unfold ax_cy0
  exact ⟨by decide +kernel, by decide +kernel, by decide +kernel⟩
theorem cy_X4_paint : ax_cy0 yX4_paint 6 := by
  unfold ax_cy0
  exact ⟨by decide +kernel, by decide +kernel, by decide +kernel⟩
theorem cy_X4_paintAmounts : ax_cy0 yX4_paintAmounts 3 := by
  unfold ax_cy0
  exact ⟨by decide +kernel, by decide +kernel, by decide +kernel⟩
theorem cy_X4_paintBlend : ax_cy0 yX4_paintBlend 4 := by
  unfold ax_cy0
  exact ⟨by decide +kernel, by decide +kernel, by decide +kernel⟩
theorem cy_X4_paintBlur : ax_cy0 yX4_paintBlur 3 := by
  unfold ax_cy0
  exact ⟨by decide +kernel, by decide +kernel, by decide +kernel⟩
theorem cy_X4_paintInverse : ax_cy0 yX4_paintInverse 2 := by
  unfold ax_cy0
  exact ⟨by decide +kernel, by decide +kernel, by decide +kernel⟩
theorem cy_X4_paintKey : ax_cy0 yX4_paintKey 3 := by
  unfold ax_cy0
  exact ⟨by decide +kernel, by decide +kernel, by decide +kernel⟩
theorem cy_X4_paintSource : ax_cy0 yX4_paintSource 3 := by
  unfold ax_cy0
  exact ⟨by decide +kernel, by decide +kernel, by decide +kernel⟩
theorem cy_X5_init : ax_cy0 yX5_init 0 := by
  unfold ax_cy0
  exact ⟨by decide +kernel, by decide +kernel, by decide +kernel⟩
theorem cy_X6_expect : ax_cy0 yX6_expect 1 := by
  unfold ax_cy0
  exact ⟨by decide +kernel, by decide +kernel, by decide +kernel⟩
theorem cy_X6_expression : ax_cy0 yX6_expression 1 := by
  unfold ax_cy0
  exact ⟨by decide +kernel, by decide +kernel, by decide +kernel⟩
theorem cy_X6_fill : ax_cy0 yX6_fill 5 := by
  unfold ax_cy0
  exact ⟨by decide +kernel, by decide +kernel, by decide +kernel⟩
theorem cy_X6_init : ax_cy0 yX6_init 0 := by
  unfold ax_cy0
  exact ⟨by decide +kernel, by decide +kernel, by decide +kernel⟩
theorem cy_X6_kindHere : ax_cy0 yX6_kindHere 0 := by
  unfold ax_cy0
  exact ⟨by decide +kernel, by decide +kernel, by decide +kernel⟩
theorem cy_X6_newNode : ax_cy0 yX6_newNode 2 := by
  unfold ax_cy0
  exact ⟨by decide +kernel, by decide +kernel, by decide +kernel⟩
theorem cy_X6_nextExpression : ax_cy0 yX6_nextExpression 1 := by
  unfold ax_cy0
  exact ⟨by decide +kernel, by decide +kernel, by decide +kernel⟩
theorem cy_X6_read : ax_cy0 yX6_read 1 := by
  unfold ax_cy0
  exact ⟨by decide +kernel, by decide +kernel, by decide +kernel⟩
theorem cy_X6_readDigits : ax_cy0 yX6_readDigits 0 := by
  unfold ax_cy0
  exact ⟨by decide +kernel, by decide +kernel, by decide +kernel⟩
theorem cy_X6_readNumber : ax_cy0 yX6_readNumber 2 := by
  unfold ax_cy0
  exact ⟨by decide +kernel, by decide +kernel, by decide +kernel⟩
theorem cy_X7_different : ax_cy0 yX7_different 2 := by
  unfold ax_cy0
  exact ⟨by decide +kernel, by decide +kernel, by decide +kernel⟩
theorem cy_X7_greatest : ax_cy0 yX7_greatest 2 := by
  unfold ax_cy0
  exact ⟨by decide +kernel, by decide +kernel, by decide +kernel⟩
theorem cy_X7_greatestDifference : ax_cy0 yX7_greatestDifference 2 := by
  unfold ax_cy0
  exact ⟨by decide +kernel, by decide +kernel, by decide +kernel⟩
theorem cy_X7_inPart : ax_cy0 yX7_inPart 3 := by
  unfold ax_cy0
  exact ⟨by decide +kernel, by decide +kernel, by decide +kernel⟩
theorem cy_X7_least : ax_cy0 yX7_least 2 := by
  unfold ax_cy0
  exact ⟨by decide +kernel, by decide +kernel, by decide +kernel⟩
theorem cy_X7_standsBefore : ax_cy0 yX7_standsBefore 3 := by
  unfold ax_cy0
  exact ⟨by decide +kernel, by decide +kernel, by decide +kernel⟩
theorem cy_X7_total : ax_cy0 yX7_total 2 := by
  unfold ax_cy0
  exact ⟨by decide +kernel, by decide +kernel, by decide +kernel⟩
theorem cy_X8_at : ax_cy0 yX8_at 1 := by
  unfold ax_cy0
  exact ⟨by decide +kernel, by decide +kernel, by decide +kernel⟩
theorem cy_X8_empty : ax_cy0 yX8_empty 0 := by
  unfold ax_cy0
  exact ⟨by decide +kernel, by decide +kernel, by decide +kernel⟩
theorem cy_X8_init : ax_cy0 yX8_init 0 := by
  unfold ax_cy0
  exact ⟨by decide +kernel, by decide +kernel, by decide +kernel⟩
theorem cy_X8_openAhead : ax_cy0 yX8_openAhead 1 := by
  unfold ax_cy0
  exact ⟨by decide +kernel, by decide +kernel, by decide +kernel⟩
theorem cy_X8_put : ax_cy0 yX8_put 1 := by
  unfold ax_cy0
  exact ⟨by decide +kernel, by decide +kernel, by decide +kernel⟩
theorem cy_X9_addNode : ax_cy0 yX9_addNode 1 := by
  unfold ax_cy0
  exact ⟨by decide +kernel, by decide +kernel, by decide +kernel⟩
theorem cy_X9_append : ax_cy0 yX9_append 1 := by
  unfold ax_cy0
  exact ⟨by decide +kernel, by decide +kernel, by decide +kernel⟩
theorem cy_X9_ask : ax_cy0 yX9_ask 3 := by
  unfold ax_cy0
  exact ⟨by decide +kernel, by decide +kernel, by decide +kernel⟩
theorem cy_X9_build : ax_cy0 yX9_build 0 := by
  unfold ax_cy0
  exact ⟨by decide +kernel, by decide +kernel, by decide +kernel⟩
theorem cy_X9_checksum : ax_cy0 yX9_checksum 0 := by
  unfold ax_cy0
  exact ⟨by decide +kernel, by decide +kernel, by decide +kernel⟩
theorem cy_X9_clear : ax_cy0 yX9_clear 0 := by
  unfold ax_cy0
  exact ⟨by decide +kernel, by decide +kernel, by decide +kernel⟩
theorem cy_X9_clearText : ax_cy0 yX9_clearText 0 := by
  unfold ax_cy0
  exact ⟨by decide +kernel, by decide +kernel, by decide +kernel⟩
theorem cy_X9_compare : ax_cy0 yX9_compare 3 := by
  unfold ax_cy0
  exact ⟨by decide +kernel, by decide +kernel, by decide +kernel⟩
theorem cy_X9_connect : ax_cy0 yX9_connect 3 := by
  unfold ax_cy0
  exact ⟨by decide +kernel, by decide +kernel, by decide +kernel⟩
theorem cy_X9_contains : ax_cy0 yX9_contains 2 := by
  unfold ax_cy0
  exact ⟨by decide +kernel, by decide +kernel, by decide +kernel⟩
theorem cy_X9_count : ax_cy0 yX9_count 1 := by
  unfold ax_cy0
  exact ⟨by decide +kernel, by decide +kernel, by decide +kernel⟩
theorem cy_X9_faultDepth : ax_cy0 yX9_faultDepth 0 := by
  unfold ax_cy0
  exact ⟨by decide +kernel, by decide +kernel, by decide +kernel⟩
theorem cy_X9_faultPosition : ax_cy0 yX9_faultPosition 0 := by
  unfold ax_cy0
  exact ⟨by decide +kernel, by decide +kernel, by decide +kernel⟩
theorem cy_X9_init : ax_cy0 yX9_init 0 := by
  unfold ax_cy0
  exact ⟨by decide +kernel, by decide +kernel, by decide +kernel⟩
theorem cy_X9_input : ax_cy0 yX9_input 2 := by
  unfold ax_cy0
  exact ⟨by decide +kernel, by decide +kernel, by decide +kernel⟩
theorem cy_X9_isCached : ax_cy0 yX9_isCached 2 := by
  unfold ax_cy0
  exact ⟨by decide +kernel, by decide +kernel, by decide +kernel⟩
theorem cy_X9_isChannel : ax_cy0 yX9_isChannel 1 := by
  unfold ax_cy0
  exact ⟨by decide +kernel, by decide +kernel, by decide +kernel⟩
theorem cy_X9_isFrame : ax_cy0 yX9_isFrame 1 := by
  unfold ax_cy0
  exact ⟨by decide +kernel, by decide +kernel, by decide +kernel⟩
theorem cy_X9_isIn : ax_cy0 yX9_isIn 3 := by
  unfold ax_cy0
  exact ⟨by decide +kernel, by decide +kernel, by decide +kernel⟩
theorem cy_X9_mix : ax_cy0 yX9_mix 2 := by
  unfold ax_cy0
  exact ⟨by decide +kernel, by decide +kernel, by decide +kernel⟩
theorem cy_X9_mixNode : ax_cy0 yX9_mixNode 2 := by
  unfold ax_cy0
  exact ⟨by decide +kernel, by decide +kernel, by decide +kernel⟩
theorem cy_X9_node : ax_cy0 yX9_node 2 := by
  unfold ax_cy0
  exact ⟨by decide +kernel, by decide +kernel, by decide +kernel⟩
theorem cy_X9_nodes : ax_cy0 yX9_nodes 0 := by
  unfold ax_cy0
  exact ⟨by decide +kernel, by decide +kernel, by decide +kernel⟩
theorem cy_X9_parameter : ax_cy0 yX9_parameter 2 := by
  unfold ax_cy0
  exact ⟨by decide +kernel, by decide +kernel, by decide +kernel⟩
theorem cy_X9_restore : ax_cy0 yX9_restore 1 := by
  unfold ax_cy0
  exact ⟨by decide +kernel, by decide +kernel, by decide +kernel⟩
theorem cy_X9_save : ax_cy0 yX9_save 1 := by
  unfold ax_cy0
  exact ⟨by decide +kernel, by decide +kernel, by decide +kernel⟩
theorem cy_X9_scope : ax_cy0 yX9_scope 4 := by
  unfold ax_cy0
  exact ⟨by decide +kernel, by decide +kernel, by decide +kernel⟩
theorem cy_X9_set : ax_cy0 yX9_set 3 := by
  unfold ax_cy0
  exact ⟨by decide +kernel, by decide +kernel, by decide +kernel⟩
theorem cy_X9_setRange : ax_cy0 yX9_setRange 3 := by
  unfold ax_cy0
  exact ⟨by decide +kernel, by decide +kernel, by decide +kernel⟩
theorem cy_X9_setRoom : ax_cy0 yX9_setRoom 1 := by
  unfold ax_cy0
  exact ⟨by decide +kernel, by decide +kernel, by decide +kernel⟩
theorem cy_X9_sum : ax_cy0 yX9_sum 4 := by
  unfold ax_cy0
  exact ⟨by decide +kernel, by decide +kernel, by decide +kernel⟩
theorem cy_X9_value : ax_cy0 yX9_value 5 := by
  unfold ax_cy0
  exact ⟨by decide +kernel, by decide +kernel, by decide +kernel⟩
end
